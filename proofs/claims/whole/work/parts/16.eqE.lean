/-! step equations, printed by wip/whole/gen12run.py; S_x: all of a method but the heads of its loops; s_x_pc: a head -/
theorem s_mo_spares_9 (v0 v1 v2 v4 : Value) (x : Int32) (st : List Value) (h : mr_h) (Q : Option Value → mr_h → Prop) : mr_wp 150 9 [v0, v1, v2, .int x, v4] st h Q = mr_wp 150 10 [v0, v1, v2, .int x, v4] (.int x :: st) h Q := gx_one (i := .iload_n 3) (len := 1) (by decide +kernel) rfl
theorem s_mo_spares_20 (v0 v1 v2 v3 : Value) (x : Int32) (st : List Value) (h : mr_h) (Q : Option Value → mr_h → Prop) : mr_wp 150 20 [v0, v1, v2, v3, .int x] st h Q = mr_wp 150 22 [v0, v1, v2, v3, .int x] (.int x :: st) h Q := gx_one (i := .iload 4) (len := 2) (by decide +kernel) rfl
theorem S_mo_spares_0 : (∀ (v1 v2 v3 v4 : Value) (x : Nat) (st : List Value) (h : mr_h) (Q : Option Value → mr_h → Prop), mr_wp 150 0 [.ref x, v1, v2, v3, v4] st h Q = mr_wp 150 1 [.ref x, v1, v2, v3, v4] (.ref x :: st) h Q) ∧
    (∀ (v0 v1 v2 v3 v4 : Value) (o : Nat) (h : mr_h) (Q : Option Value → mr_h → Prop), mr_wp 150 1 [v0, v1, v2, v3, v4] [.ref o] h Q = mr_rc (h.1 o) 11 (mr_run 151 [.ref o] h (fun v h' => mr_wp 150 4 [v0, v1, v2, v3, v4] (v.toList ++ []) h' Q))) ∧
    (∀ (v1 v2 v3 v4 : Value) (w0 : Nat) (x : Int32) (st : List Value) (h : mr_h) (Q : Option Value → mr_h → Prop), mr_wp 150 4 [.ref w0, v1, v2, v3, v4] (.int x :: st) h Q = mr_wp 150 5 [.ref w0, .int x, v2, v3, v4] st h Q) ∧
    (∀ (v0 v1 v2 v3 v4 : Value) (st : List Value) (h : mr_h) (Q : Option Value → mr_h → Prop), mr_wp 150 5 [v0, v1, v2, v3, v4] st h Q = mr_wp 150 6 [v0, v1, v2, v3, v4] (.int (0) :: st) h Q) ∧
    (∀ (v0 v2 v3 v4 : Value) (w1 : Int32) (x : Int32) (st : List Value) (h : mr_h) (Q : Option Value → mr_h → Prop), mr_wp 150 6 [v0, .int w1, v2, v3, v4] (.int x :: st) h Q = mr_wp 150 7 [v0, .int w1, .int x, v3, v4] st h Q) ∧
    (∀ (v0 v1 v2 v3 v4 : Value) (st : List Value) (h : mr_h) (Q : Option Value → mr_h → Prop), mr_wp 150 7 [v0, v1, v2, v3, v4] st h Q = mr_wp 150 8 [v0, v1, v2, v3, v4] (.int (0) :: st) h Q) ∧
    (∀ (v0 v1 v3 v4 : Value) (w2 : Int32) (x : Int32) (st : List Value) (h : mr_h) (Q : Option Value → mr_h → Prop), mr_wp 150 8 [v0, v1, .int w2, v3, v4] (.int x :: st) h Q = mr_wp 150 9 [v0, v1, .int w2, .int x, v4] st h Q) ∧
    (∀ (v1 v2 v3 v4 : Value) (x : Nat) (st : List Value) (h : mr_h) (Q : Option Value → mr_h → Prop), mr_wp 150 10 [.ref x, v1, v2, v3, v4] st h Q = mr_wp 150 11 [.ref x, v1, v2, v3, v4] (.ref x :: st) h Q) ∧
    (∀ (v0 v1 v2 v3 v4 : Value) (a : Nat) (st : List Value) (h : mr_h) (Q : Option Value → mr_h → Prop), mr_wp 150 11 [v0, v1, v2, v3, v4] (.ref a :: st) h Q = mr_gf (h.1 a) 11 8 (fun v => mr_wp 150 14 [v0, v1, v2, v3, v4] (v :: st) h Q)) ∧
    (∀ (v0 v1 v2 v3 v4 : Value) (x : Int32) (y : Int32) (st : List Value) (h : mr_h) (Q : Option Value → mr_h → Prop), mr_wp 150 14 [v0, v1, v2, v3, v4] (.int y :: .int x :: st) h Q = if y ≤ x then mr_wp 150 76 [v0, v1, v2, v3, v4] st h Q else mr_wp 150 17 [v0, v1, v2, v3, v4] st h Q) ∧
    (∀ (v0 v1 v2 v3 v4 : Value) (st : List Value) (h : mr_h) (Q : Option Value → mr_h → Prop), mr_wp 150 17 [v0, v1, v2, v3, v4] st h Q = mr_wp 150 18 [v0, v1, v2, v3, v4] (.int (0) :: st) h Q) ∧
    (∀ (v0 v1 v2 v4 : Value) (w3 : Int32) (x : Int32) (st : List Value) (h : mr_h) (Q : Option Value → mr_h → Prop), mr_wp 150 18 [v0, v1, v2, .int w3, v4] (.int x :: st) h Q = mr_wp 150 20 [v0, v1, v2, .int w3, .int x] st h Q) ∧
    (∀ (v1 v2 v3 v4 : Value) (x : Nat) (st : List Value) (h : mr_h) (Q : Option Value → mr_h → Prop), mr_wp 150 22 [.ref x, v1, v2, v3, v4] st h Q = mr_wp 150 23 [.ref x, v1, v2, v3, v4] (.ref x :: st) h Q) ∧
    (∀ (v0 v1 v2 v3 v4 : Value) (a : Nat) (st : List Value) (h : mr_h) (Q : Option Value → mr_h → Prop), mr_wp 150 23 [v0, v1, v2, v3, v4] (.ref a :: st) h Q = mr_gf (h.1 a) 11 8 (fun v => mr_wp 150 26 [v0, v1, v2, v3, v4] (v :: st) h Q)) ∧
    (∀ (v0 v1 v2 v3 v4 : Value) (x : Int32) (y : Int32) (st : List Value) (h : mr_h) (Q : Option Value → mr_h → Prop), mr_wp 150 26 [v0, v1, v2, v3, v4] (.int y :: .int x :: st) h Q = if y ≤ x then mr_wp 150 70 [v0, v1, v2, v3, v4] st h Q else mr_wp 150 29 [v0, v1, v2, v3, v4] st h Q) ∧
    (∀ (v0 v1 v3 v4 : Value) (x : Int32) (st : List Value) (h : mr_h) (Q : Option Value → mr_h → Prop), mr_wp 150 29 [v0, v1, .int x, v3, v4] st h Q = mr_wp 150 30 [v0, v1, .int x, v3, v4] (.int x :: st) h Q) ∧
    (∀ (v1 v2 v3 v4 : Value) (x : Nat) (st : List Value) (h : mr_h) (Q : Option Value → mr_h → Prop), mr_wp 150 30 [.ref x, v1, v2, v3, v4] st h Q = mr_wp 150 31 [.ref x, v1, v2, v3, v4] (.ref x :: st) h Q) ∧
    (∀ (v0 v1 v2 v3 v4 : Value) (a : Nat) (st : List Value) (h : mr_h) (Q : Option Value → mr_h → Prop), mr_wp 150 31 [v0, v1, v2, v3, v4] (.ref a :: st) h Q = mr_gf (h.1 a) 11 12 (fun v => mr_wp 150 34 [v0, v1, v2, v3, v4] (v :: st) h Q)) ∧
    (∀ (v0 v1 v2 v3 v4 : Value) (st : List Value) (h : mr_h) (Q : Option Value → mr_h → Prop), mr_wp 150 34 [v0, v1, v2, v3, v4] st h Q = mr_wp 150 35 [v0, v1, v2, v3, v4] (.int (0) :: st) h Q) ∧
    (∀ (v0 v1 v2 v4 : Value) (x : Int32) (st : List Value) (h : mr_h) (Q : Option Value → mr_h → Prop), mr_wp 150 35 [v0, v1, v2, .int x, v4] st h Q = mr_wp 150 36 [v0, v1, v2, .int x, v4] (.int x :: st) h Q) ∧
    (∀ (v0 v1 v2 v3 v4 : Value) (x : Int32) (y : Int32) (st : List Value) (h : mr_h) (Q : Option Value → mr_h → Prop), mr_wp 150 36 [v0, v1, v2, v3, v4] (.int y :: .int x :: st) h Q = mr_wp 150 37 [v0, v1, v2, v3, v4] (.int (x + y) :: st) h Q) ∧
    (∀ (v0 v1 v2 v3 v4 : Value) (a : Nat) (x : Int32) (st : List Value) (h : mr_h) (Q : Option Value → mr_h → Prop), mr_wp 150 37 [v0, v1, v2, v3, v4] (.int x :: .ref a :: st) h Q = mr_ai (h.1 a) x (fun v => mr_wp 150 38 [v0, v1, v2, v3, v4] (.int v :: st) h Q)) ∧
    (∀ (v0 v1 v2 v3 : Value) (x : Int32) (st : List Value) (h : mr_h) (Q : Option Value → mr_h → Prop), mr_wp 150 38 [v0, v1, v2, v3, .int x] st h Q = mr_wp 150 40 [v0, v1, v2, v3, .int x] (.int x :: st) h Q) ∧
    (∀ (v0 v1 v2 v3 v4 : Value) (a0 : Int32) (a1 : Int32) (r0 : Value) (h : mr_h) (Q : Option Value → mr_h → Prop), mr_wp 150 40 [v0, v1, v2, v3, v4] [.int a1, .int a0, r0] h Q = mr_run 130 [.int a0, .int a1] h (fun v h' => mr_wp 150 43 [v0, v1, v2, v3, v4] (v.toList ++ [r0]) h' Q)) ∧
    (∀ (v0 v1 v2 v3 v4 : Value) (x : Int32) (st : List Value) (h : mr_h) (Q : Option Value → mr_h → Prop), mr_wp 150 43 [v0, v1, v2, v3, v4] (.int x :: st) h Q = if x = 0 then mr_wp 150 61 [v0, v1, v2, v3, v4] st h Q else mr_wp 150 46 [v0, v1, v2, v3, v4] st h Q) ∧
    (∀ (v1 v2 v3 v4 : Value) (x : Nat) (st : List Value) (h : mr_h) (Q : Option Value → mr_h → Prop), mr_wp 150 46 [.ref x, v1, v2, v3, v4] st h Q = mr_wp 150 47 [.ref x, v1, v2, v3, v4] (.ref x :: st) h Q) ∧
    (∀ (v0 v1 v2 v4 : Value) (x : Int32) (st : List Value) (h : mr_h) (Q : Option Value → mr_h → Prop), mr_wp 150 47 [v0, v1, v2, .int x, v4] st h Q = mr_wp 150 48 [v0, v1, v2, .int x, v4] (.int x :: st) h Q) ∧
    (∀ (v0 v1 v2 v3 : Value) (x : Int32) (st : List Value) (h : mr_h) (Q : Option Value → mr_h → Prop), mr_wp 150 48 [v0, v1, v2, v3, .int x] st h Q = mr_wp 150 50 [v0, v1, v2, v3, .int x] (.int x :: st) h Q) ∧
    (∀ (v0 v1 v2 v3 v4 : Value) (a0 : Int32) (a1 : Int32) (o : Nat) (r0 : Value) (h : mr_h) (Q : Option Value → mr_h → Prop), mr_wp 150 50 [v0, v1, v2, v3, v4] [.int a1, .int a0, .ref o, r0] h Q = mr_rc (h.1 o) 11 (mr_run 152 [.ref o, .int a0, .int a1] h (fun v h' => mr_wp 150 53 [v0, v1, v2, v3, v4] (v.toList ++ [r0]) h' Q))) ∧
    (∀ (v0 v2 v3 v4 : Value) (x : Int32) (st : List Value) (h : mr_h) (Q : Option Value → mr_h → Prop), mr_wp 150 53 [v0, .int x, v2, v3, v4] st h Q = mr_wp 150 54 [v0, .int x, v2, v3, v4] (.int x :: st) h Q) ∧
    (∀ (v0 v1 v2 v3 v4 : Value) (x : Int32) (y : Int32) (st : List Value) (h : mr_h) (Q : Option Value → mr_h → Prop), mr_wp 150 54 [v0, v1, v2, v3, v4] (.int y :: .int x :: st) h Q = if ¬ x = y then mr_wp 150 61 [v0, v1, v2, v3, v4] st h Q else mr_wp 150 57 [v0, v1, v2, v3, v4] st h Q) ∧
    (∀ (v0 v1 v2 v3 v4 : Value) (st : List Value) (h : mr_h) (Q : Option Value → mr_h → Prop), mr_wp 150 57 [v0, v1, v2, v3, v4] st h Q = mr_wp 150 58 [v0, v1, v2, v3, v4] (.int (1) :: st) h Q) ∧
    (∀ (v0 v1 v2 v3 v4 : Value) (st : List Value) (h : mr_h) (Q : Option Value → mr_h → Prop), mr_wp 150 58 [v0, v1, v2, v3, v4] st h Q = mr_wp 150 62 [v0, v1, v2, v3, v4] st h Q) ∧
    (∀ (v0 v1 v2 v3 v4 : Value) (st : List Value) (h : mr_h) (Q : Option Value → mr_h → Prop), mr_wp 150 61 [v0, v1, v2, v3, v4] st h Q = mr_wp 150 62 [v0, v1, v2, v3, v4] (.int (0) :: st) h Q) ∧
    (∀ (v0 v1 v2 v3 v4 : Value) (x : Int32) (y : Int32) (st : List Value) (h : mr_h) (Q : Option Value → mr_h → Prop), mr_wp 150 62 [v0, v1, v2, v3, v4] (.int y :: .int x :: st) h Q = mr_wp 150 63 [v0, v1, v2, v3, v4] (.int (x + y) :: st) h Q) ∧
    (∀ (v0 v2 v3 v4 : Value) (w1 : Int32) (x : Int32) (st : List Value) (h : mr_h) (Q : Option Value → mr_h → Prop), mr_wp 150 63 [v0, .int w1, v2, v3, v4] (.int x :: st) h Q = mr_wp 150 64 [v0, .int w1, .int x, v3, v4] st h Q) ∧
    (∀ (v0 v1 v2 : Value) (x : Int32) (w3 : Int32) (st : List Value) (h : mr_h) (Q : Option Value → mr_h → Prop), mr_wp 150 64 [v0, v1, v2, .int w3, .int x] st h Q = mr_wp 150 67 [v0, v1, v2, .int w3, .int (x + (1))] st h Q) ∧
    (∀ (v0 v1 v2 v3 v4 : Value) (st : List Value) (h : mr_h) (Q : Option Value → mr_h → Prop), mr_wp 150 67 [v0, v1, v2, v3, v4] st h Q = mr_wp 150 20 [v0, v1, v2, v3, v4] st h Q) ∧
    (∀ (v0 v1 v4 : Value) (x : Int32) (w2 : Int32) (st : List Value) (h : mr_h) (Q : Option Value → mr_h → Prop), mr_wp 150 70 [v0, v1, .int w2, .int x, v4] st h Q = mr_wp 150 73 [v0, v1, .int w2, .int (x + (1)), v4] st h Q) ∧
    (∀ (v0 v1 v2 v3 v4 : Value) (st : List Value) (h : mr_h) (Q : Option Value → mr_h → Prop), mr_wp 150 73 [v0, v1, v2, v3, v4] st h Q = mr_wp 150 9 [v0, v1, v2, v3, v4] st h Q) :=
  ⟨fun v1 v2 v3 v4 x st h Q => gx_one (i := .aload_n 0) (len := 1) (by decide +kernel) rfl,
   fun v0 v1 v2 v3 v4 o h Q => gx_virt (x := 183) (n := 0) (by decide +kernel) (by decide +kernel) rfl (Or.inl (Nat.le_of_ble_eq_true rfl)) (by show _ ≤ mr_mxl 151; rw [show mr_mxl 151 = 1 from by decide +kernel]; exact Nat.le_of_ble_eq_true rfl) (by decide +kernel),
   fun v1 v2 v3 v4 w0 x st h Q => gx_one (i := .istore_n 1) (len := 1) (by decide +kernel) rfl,
   fun v0 v1 v2 v3 v4 st h Q => gx_one (i := .iconst 0) (len := 1) (by decide +kernel) rfl,
   fun v0 v2 v3 v4 w1 x st h Q => gx_one (i := .istore_n 2) (len := 1) (by decide +kernel) rfl,
   fun v0 v1 v2 v3 v4 st h Q => gx_one (i := .iconst 0) (len := 1) (by decide +kernel) rfl,
   fun v0 v1 v3 v4 w2 x st h Q => gx_one (i := .istore_n 3) (len := 1) (by decide +kernel) rfl,
   fun v1 v2 v3 v4 x st h Q => gx_one (i := .aload_n 0) (len := 1) (by decide +kernel) rfl,
   fun v0 v1 v2 v3 v4 a st h Q => gx_get (x := 123) (by decide +kernel) (by decide +kernel),
   fun v0 v1 v2 v3 v4 x y st h Q => gx_br (i := .if_icmp .ge 62) (len := 3) (c := .ge) (by decide +kernel) rfl rfl,
   fun v0 v1 v2 v3 v4 st h Q => gx_one (i := .iconst 0) (len := 1) (by decide +kernel) rfl,
   fun v0 v1 v2 v4 w3 x st h Q => gx_one (i := .istore 4) (len := 2) (by decide +kernel) rfl,
   fun v1 v2 v3 v4 x st h Q => gx_one (i := .aload_n 0) (len := 1) (by decide +kernel) rfl,
   fun v0 v1 v2 v3 v4 a st h Q => gx_get (x := 123) (by decide +kernel) (by decide +kernel),
   fun v0 v1 v2 v3 v4 x y st h Q => gx_br (i := .if_icmp .ge 44) (len := 3) (c := .ge) (by decide +kernel) rfl rfl,
   fun v0 v1 v3 v4 x st h Q => gx_one (i := .iload_n 2) (len := 1) (by decide +kernel) rfl,
   fun v1 v2 v3 v4 x st h Q => gx_one (i := .aload_n 0) (len := 1) (by decide +kernel) rfl,
   fun v0 v1 v2 v3 v4 a st h Q => gx_get (x := 16) (by decide +kernel) (by decide +kernel),
   fun v0 v1 v2 v3 v4 st h Q => gx_one (i := .iconst 0) (len := 1) (by decide +kernel) rfl,
   fun v0 v1 v2 v4 x st h Q => gx_one (i := .iload_n 3) (len := 1) (by decide +kernel) rfl,
   fun v0 v1 v2 v3 v4 x y st h Q => gx_one (i := .iadd) (len := 1) (by decide +kernel) rfl,
   fun v0 v1 v2 v3 v4 a x st h Q => gx_iald (by decide +kernel),
   fun v0 v1 v2 v3 x st h Q => gx_one (i := .iload 4) (len := 2) (by decide +kernel) rfl,
   fun v0 v1 v2 v3 v4 a0 a1 r0 h Q => gx_stat (x := 116) (t := 130) (n := 2) (by decide +kernel) (by decide +kernel) (by decide) (by decide +kernel) rfl (Or.inl (Nat.le_of_ble_eq_true rfl)) (by show _ ≤ mr_mxl 130; rw [show mr_mxl 130 = 2 from by decide +kernel]; exact Nat.le_of_ble_eq_true rfl),
   fun v0 v1 v2 v3 v4 x st h Q => gx_br (i := .ifCond .eq 18) (len := 3) (c := .eq) (by decide +kernel) rfl rfl,
   fun v1 v2 v3 v4 x st h Q => gx_one (i := .aload_n 0) (len := 1) (by decide +kernel) rfl,
   fun v0 v1 v2 v4 x st h Q => gx_one (i := .iload_n 3) (len := 1) (by decide +kernel) rfl,
   fun v0 v1 v2 v3 x st h Q => gx_one (i := .iload 4) (len := 2) (by decide +kernel) rfl,
   fun v0 v1 v2 v3 v4 a0 a1 o r0 h Q => gx_virt (x := 186) (n := 2) (by decide +kernel) (by decide +kernel) rfl (Or.inl (Nat.le_of_ble_eq_true rfl)) (by show _ ≤ mr_mxl 152; rw [show mr_mxl 152 = 3 from by decide +kernel]; exact Nat.le_of_ble_eq_true rfl) (by decide +kernel),
   fun v0 v2 v3 v4 x st h Q => gx_one (i := .iload_n 1) (len := 1) (by decide +kernel) rfl,
   fun v0 v1 v2 v3 v4 x y st h Q => gx_br (i := .if_icmp .ne 7) (len := 3) (c := .ne) (by decide +kernel) rfl rfl,
   fun v0 v1 v2 v3 v4 st h Q => gx_one (i := .iconst 1) (len := 1) (by decide +kernel) rfl,
   fun v0 v1 v2 v3 v4 st h Q => gx_one (i := .goto 4) (len := 3) (by decide +kernel) rfl,
   fun v0 v1 v2 v3 v4 st h Q => gx_one (i := .iconst 0) (len := 1) (by decide +kernel) rfl,
   fun v0 v1 v2 v3 v4 x y st h Q => gx_one (i := .iadd) (len := 1) (by decide +kernel) rfl,
   fun v0 v2 v3 v4 w1 x st h Q => gx_one (i := .istore_n 2) (len := 1) (by decide +kernel) rfl,
   fun v0 v1 v2 x w3 st h Q => gx_one (i := .iinc 4 1) (len := 3) (by decide +kernel) rfl,
   fun v0 v1 v2 v3 v4 st h Q => gx_one (i := .goto (-47)) (len := 3) (by decide +kernel) rfl,
   fun v0 v1 v4 x w2 st h Q => gx_one (i := .iinc 3 1) (len := 3) (by decide +kernel) rfl,
   fun v0 v1 v2 v3 v4 st h Q => gx_one (i := .goto (-64)) (len := 3) (by decide +kernel) rfl⟩
theorem S_mo_spares_1 : (∀ (v0 v1 v3 v4 : Value) (x : Int32) (st : List Value) (h : mr_h) (Q : Option Value → mr_h → Prop), mr_wp 150 76 [v0, v1, .int x, v3, v4] st h Q = mr_wp 150 77 [v0, v1, .int x, v3, v4] (.int x :: st) h Q) ∧
    (∀ (v0 v1 v2 v3 v4 : Value) (x : Int32) (h : mr_h) (Q : Option Value → mr_h → Prop), mr_wp 150 77 [v0, v1, v2, v3, v4] [.int x] h Q = Q (some (.int x)) h) :=
  ⟨fun v0 v1 v3 v4 x st h Q => gx_one (i := .iload_n 2) (len := 1) (by decide +kernel) rfl,
   fun v0 v1 v2 v3 v4 x h Q => gx_ret (i := .ireturn) (len := 1) (by decide +kernel) rfl rfl (by simp only [mr_rt, if_pos]; rw [if_pos (Or.inl (by decide +kernel))])⟩

theorem S_mo_pairsNow : (∀ (x : Nat) (st : List Value) (h : mr_h) (Q : Option Value → mr_h → Prop), mr_wp 151 0 [.ref x] st h Q = mr_wp 151 1 [.ref x] (.ref x :: st) h Q) ∧
    (∀ (x : Nat) (st : List Value) (h : mr_h) (Q : Option Value → mr_h → Prop), mr_wp 151 1 [.ref x] st h Q = mr_wp 151 2 [.ref x] (.ref x :: st) h Q) ∧
    (∀ (v0 : Value) (a : Nat) (st : List Value) (h : mr_h) (Q : Option Value → mr_h → Prop), mr_wp 151 2 [v0] (.ref a :: st) h Q = mr_gf (h.1 a) 11 12 (fun v => mr_wp 151 5 [v0] (v :: st) h Q)) ∧
    (∀ (x : Nat) (st : List Value) (h : mr_h) (Q : Option Value → mr_h → Prop), mr_wp 151 5 [.ref x] st h Q = mr_wp 151 6 [.ref x] (.ref x :: st) h Q) ∧
    (∀ (v0 : Value) (a : Nat) (st : List Value) (h : mr_h) (Q : Option Value → mr_h → Prop), mr_wp 151 6 [v0] (.ref a :: st) h Q = mr_gf (h.1 a) 11 22 (fun v => mr_wp 151 9 [v0] (v :: st) h Q)) ∧
    (∀ (v0 : Value) (a0 : Nat) (a1 : Nat) (o : Nat) (h : mr_h) (Q : Option Value → mr_h → Prop), mr_wp 151 9 [v0] [.ref a1, .ref a0, .ref o] h Q = mr_rc (h.1 o) 11 (mr_run 133 [.ref o, .ref a0, .ref a1] h (fun v h' => mr_wp 151 12 [v0] (v.toList ++ []) h' Q))) ∧
    (∀ (x : Nat) (st : List Value) (h : mr_h) (Q : Option Value → mr_h → Prop), mr_wp 151 12 [.ref x] st h Q = mr_wp 151 13 [.ref x] (.ref x :: st) h Q) ∧
    (∀ (x : Nat) (st : List Value) (h : mr_h) (Q : Option Value → mr_h → Prop), mr_wp 151 13 [.ref x] st h Q = mr_wp 151 14 [.ref x] (.ref x :: st) h Q) ∧
    (∀ (v0 : Value) (a : Nat) (st : List Value) (h : mr_h) (Q : Option Value → mr_h → Prop), mr_wp 151 14 [v0] (.ref a :: st) h Q = mr_gf (h.1 a) 11 22 (fun v => mr_wp 151 17 [v0] (v :: st) h Q)) ∧
    (∀ (v0 : Value) (a0 : Nat) (o : Nat) (h : mr_h) (Q : Option Value → mr_h → Prop), mr_wp 151 17 [v0] [.ref a0, .ref o] h Q = mr_rc (h.1 o) 11 (mr_run 149 [.ref o, .ref a0] h (fun v h' => mr_wp 151 20 [v0] (v.toList ++ []) h' Q))) ∧
    (∀ (v0 : Value) (x : Int32) (h : mr_h) (Q : Option Value → mr_h → Prop), mr_wp 151 20 [v0] [.int x] h Q = Q (some (.int x)) h) :=
  ⟨fun x st h Q => gx_one (i := .aload_n 0) (len := 1) (by decide +kernel) rfl,
   fun x st h Q => gx_one (i := .aload_n 0) (len := 1) (by decide +kernel) rfl,
   fun v0 a st h Q => gx_get (x := 16) (by decide +kernel) (by decide +kernel),
   fun x st h Q => gx_one (i := .aload_n 0) (len := 1) (by decide +kernel) rfl,
   fun v0 a st h Q => gx_get (x := 41) (by decide +kernel) (by decide +kernel),
   fun v0 a0 a1 o h Q => gx_virt (x := 158) (n := 2) (by decide +kernel) (by decide +kernel) rfl (Or.inl (Nat.le_of_ble_eq_true rfl)) (by show _ ≤ mr_mxl 133; rw [show mr_mxl 133 = 5 from by decide +kernel]; exact Nat.le_of_ble_eq_true rfl) (by decide +kernel),
   fun x st h Q => gx_one (i := .aload_n 0) (len := 1) (by decide +kernel) rfl,
   fun x st h Q => gx_one (i := .aload_n 0) (len := 1) (by decide +kernel) rfl,
   fun v0 a st h Q => gx_get (x := 41) (by decide +kernel) (by decide +kernel),
   fun v0 a0 o h Q => gx_virt (x := 179) (n := 1) (by decide +kernel) (by decide +kernel) rfl (Or.inl (Nat.le_of_ble_eq_true rfl)) (by show _ ≤ mr_mxl 149; rw [show mr_mxl 149 = 4 from by decide +kernel]; exact Nat.le_of_ble_eq_true rfl) (by decide +kernel),
   fun v0 x h Q => gx_ret (i := .ireturn) (len := 1) (by decide +kernel) rfl rfl (by simp only [mr_rt, if_pos]; rw [if_pos (Or.inl (by decide +kernel))])⟩
theorem S_mo_pairsWith : (∀ (v1 v2 : Value) (x : Nat) (st : List Value) (h : mr_h) (Q : Option Value → mr_h → Prop), mr_wp 152 0 [.ref x, v1, v2] st h Q = mr_wp 152 1 [.ref x, v1, v2] (.ref x :: st) h Q) ∧
    (∀ (v0 v1 v2 : Value) (o : Nat) (h : mr_h) (Q : Option Value → mr_h → Prop), mr_wp 152 1 [v0, v1, v2] [.ref o] h Q = mr_rc (h.1 o) 11 (mr_run 153 [.ref o] h (fun v h' => mr_wp 152 4 [v0, v1, v2] (v.toList ++ []) h' Q))) ∧
    (∀ (v1 v2 : Value) (x : Nat) (st : List Value) (h : mr_h) (Q : Option Value → mr_h → Prop), mr_wp 152 4 [.ref x, v1, v2] st h Q = mr_wp 152 5 [.ref x, v1, v2] (.ref x :: st) h Q) ∧
    (∀ (v0 v1 v2 : Value) (a : Nat) (st : List Value) (h : mr_h) (Q : Option Value → mr_h → Prop), mr_wp 152 5 [v0, v1, v2] (.ref a :: st) h Q = mr_gf (h.1 a) 11 13 (fun v => mr_wp 152 8 [v0, v1, v2] (v :: st) h Q)) ∧
    (∀ (v0 v1 v2 : Value) (st : List Value) (h : mr_h) (Q : Option Value → mr_h → Prop), mr_wp 152 8 [v0, v1, v2] st h Q = mr_wp 152 9 [v0, v1, v2] (.int (0) :: st) h Q) ∧
    (∀ (v0 v2 : Value) (x : Int32) (st : List Value) (h : mr_h) (Q : Option Value → mr_h → Prop), mr_wp 152 9 [v0, .int x, v2] st h Q = mr_wp 152 10 [v0, .int x, v2] (.int x :: st) h Q) ∧
    (∀ (v0 v1 v2 : Value) (x : Int32) (y : Int32) (st : List Value) (h : mr_h) (Q : Option Value → mr_h → Prop), mr_wp 152 10 [v0, v1, v2] (.int y :: .int x :: st) h Q = mr_wp 152 11 [v0, v1, v2] (.int (x + y) :: st) h Q) ∧
    (∀ (v0 v1 v2 : Value) (x : Int32) (y : Nat) (st : List Value) (h : mr_h) (Q : Option Value → mr_h → Prop), mr_wp 152 11 [v0, v1, v2] (.int x :: .ref y :: st) h Q = mr_wp 152 12 [v0, v1, v2] (.int x :: .ref y :: .int x :: .ref y :: st) h Q) ∧
    (∀ (v0 v1 v2 : Value) (a : Nat) (x : Int32) (st : List Value) (h : mr_h) (Q : Option Value → mr_h → Prop), mr_wp 152 12 [v0, v1, v2] (.int x :: .ref a :: st) h Q = mr_ai (h.1 a) x (fun v => mr_wp 152 13 [v0, v1, v2] (.int v :: st) h Q)) ∧
    (∀ (v0 v1 v2 : Value) (st : List Value) (h : mr_h) (Q : Option Value → mr_h → Prop), mr_wp 152 13 [v0, v1, v2] st h Q = mr_wp 152 14 [v0, v1, v2] (.int (1) :: st) h Q) ∧
    (∀ (v0 v1 : Value) (x : Int32) (st : List Value) (h : mr_h) (Q : Option Value → mr_h → Prop), mr_wp 152 14 [v0, v1, .int x] st h Q = mr_wp 152 15 [v0, v1, .int x] (.int x :: st) h Q) ∧
    (∀ (v0 v1 v2 : Value) (x : Int32) (y : Int32) (st : List Value) (h : mr_h) (Q : Option Value → mr_h → Prop), mr_wp 152 15 [v0, v1, v2] (.int y :: .int x :: st) h Q = mr_wp 152 16 [v0, v1, v2] (.int (x <<< (y &&& 31)) :: st) h Q) ∧
    (∀ (v0 v1 v2 : Value) (x : Int32) (y : Int32) (st : List Value) (h : mr_h) (Q : Option Value → mr_h → Prop), mr_wp 152 16 [v0, v1, v2] (.int y :: .int x :: st) h Q = mr_wp 152 17 [v0, v1, v2] (.int (x ^^^ y) :: st) h Q) ∧
    (∀ (v0 v1 v2 : Value) (a : Nat) (x : Int32) (y : Int32) (st : List Value) (h : mr_h) (Q : Option Value → mr_h → Prop), mr_wp 152 17 [v0, v1, v2] (.int y :: .int x :: .ref a :: st) h Q = mr_si (h.1 a) x y (fun c => mr_wp 152 18 [v0, v1, v2] st (mr_up h a c) Q)) ∧
    (∀ (v1 v2 : Value) (x : Nat) (st : List Value) (h : mr_h) (Q : Option Value → mr_h → Prop), mr_wp 152 18 [.ref x, v1, v2] st h Q = mr_wp 152 19 [.ref x, v1, v2] (.ref x :: st) h Q) ∧
    (∀ (v1 v2 : Value) (x : Nat) (st : List Value) (h : mr_h) (Q : Option Value → mr_h → Prop), mr_wp 152 19 [.ref x, v1, v2] st h Q = mr_wp 152 20 [.ref x, v1, v2] (.ref x :: st) h Q) ∧
    (∀ (v0 v1 v2 : Value) (a : Nat) (st : List Value) (h : mr_h) (Q : Option Value → mr_h → Prop), mr_wp 152 20 [v0, v1, v2] (.ref a :: st) h Q = mr_gf (h.1 a) 11 13 (fun v => mr_wp 152 23 [v0, v1, v2] (v :: st) h Q)) ∧
    (∀ (v1 v2 : Value) (x : Nat) (st : List Value) (h : mr_h) (Q : Option Value → mr_h → Prop), mr_wp 152 23 [.ref x, v1, v2] st h Q = mr_wp 152 24 [.ref x, v1, v2] (.ref x :: st) h Q) ∧
    (∀ (v0 v1 v2 : Value) (a : Nat) (st : List Value) (h : mr_h) (Q : Option Value → mr_h → Prop), mr_wp 152 24 [v0, v1, v2] (.ref a :: st) h Q = mr_gf (h.1 a) 11 23 (fun v => mr_wp 152 27 [v0, v1, v2] (v :: st) h Q)) ∧
    (∀ (v0 v1 v2 : Value) (a0 : Nat) (a1 : Nat) (o : Nat) (h : mr_h) (Q : Option Value → mr_h → Prop), mr_wp 152 27 [v0, v1, v2] [.ref a1, .ref a0, .ref o] h Q = mr_rc (h.1 o) 11 (mr_run 133 [.ref o, .ref a0, .ref a1] h (fun v h' => mr_wp 152 30 [v0, v1, v2] (v.toList ++ []) h' Q))) ∧
    (∀ (v1 v2 : Value) (x : Nat) (st : List Value) (h : mr_h) (Q : Option Value → mr_h → Prop), mr_wp 152 30 [.ref x, v1, v2] st h Q = mr_wp 152 31 [.ref x, v1, v2] (.ref x :: st) h Q) ∧
    (∀ (v1 v2 : Value) (x : Nat) (st : List Value) (h : mr_h) (Q : Option Value → mr_h → Prop), mr_wp 152 31 [.ref x, v1, v2] st h Q = mr_wp 152 32 [.ref x, v1, v2] (.ref x :: st) h Q) ∧
    (∀ (v0 v1 v2 : Value) (a : Nat) (st : List Value) (h : mr_h) (Q : Option Value → mr_h → Prop), mr_wp 152 32 [v0, v1, v2] (.ref a :: st) h Q = mr_gf (h.1 a) 11 23 (fun v => mr_wp 152 35 [v0, v1, v2] (v :: st) h Q)) ∧
    (∀ (v0 v1 v2 : Value) (a0 : Nat) (o : Nat) (h : mr_h) (Q : Option Value → mr_h → Prop), mr_wp 152 35 [v0, v1, v2] [.ref a0, .ref o] h Q = mr_rc (h.1 o) 11 (mr_run 149 [.ref o, .ref a0] h (fun v h' => mr_wp 152 38 [v0, v1, v2] (v.toList ++ []) h' Q))) ∧
    (∀ (v0 v1 v2 : Value) (x : Int32) (h : mr_h) (Q : Option Value → mr_h → Prop), mr_wp 152 38 [v0, v1, v2] [.int x] h Q = Q (some (.int x)) h) :=
  ⟨fun v1 v2 x st h Q => gx_one (i := .aload_n 0) (len := 1) (by decide +kernel) rfl,
   fun v0 v1 v2 o h Q => gx_virt (x := 176) (n := 0) (by decide +kernel) (by decide +kernel) rfl (Or.inl (Nat.le_of_ble_eq_true rfl)) (by show _ ≤ mr_mxl 153; rw [show mr_mxl 153 = 2 from by decide +kernel]; exact Nat.le_of_ble_eq_true rfl) (by decide +kernel),
   fun v1 v2 x st h Q => gx_one (i := .aload_n 0) (len := 1) (by decide +kernel) rfl,
   fun v0 v1 v2 a st h Q => gx_get (x := 19) (by decide +kernel) (by decide +kernel),
   fun v0 v1 v2 st h Q => gx_one (i := .iconst 0) (len := 1) (by decide +kernel) rfl,
   fun v0 v2 x st h Q => gx_one (i := .iload_n 1) (len := 1) (by decide +kernel) rfl,
   fun v0 v1 v2 x y st h Q => gx_one (i := .iadd) (len := 1) (by decide +kernel) rfl,
   fun v0 v1 v2 x y st h Q => gx_one (i := .dup2) (len := 1) (by decide +kernel) rfl,
   fun v0 v1 v2 a x st h Q => gx_iald (by decide +kernel),
   fun v0 v1 v2 st h Q => gx_one (i := .iconst 1) (len := 1) (by decide +kernel) rfl,
   fun v0 v1 x st h Q => gx_one (i := .iload_n 2) (len := 1) (by decide +kernel) rfl,
   fun v0 v1 v2 x y st h Q => gx_one (i := .ishl) (len := 1) (by decide +kernel) rfl,
   fun v0 v1 v2 x y st h Q => gx_one (i := .ixor) (len := 1) (by decide +kernel) rfl,
   fun v0 v1 v2 a x y st h Q => gx_iast (by decide +kernel),
   fun v1 v2 x st h Q => gx_one (i := .aload_n 0) (len := 1) (by decide +kernel) rfl,
   fun v1 v2 x st h Q => gx_one (i := .aload_n 0) (len := 1) (by decide +kernel) rfl,
   fun v0 v1 v2 a st h Q => gx_get (x := 19) (by decide +kernel) (by decide +kernel),
   fun v1 v2 x st h Q => gx_one (i := .aload_n 0) (len := 1) (by decide +kernel) rfl,
   fun v0 v1 v2 a st h Q => gx_get (x := 44) (by decide +kernel) (by decide +kernel),
   fun v0 v1 v2 a0 a1 o h Q => gx_virt (x := 158) (n := 2) (by decide +kernel) (by decide +kernel) rfl (Or.inl (Nat.le_of_ble_eq_true rfl)) (by show _ ≤ mr_mxl 133; rw [show mr_mxl 133 = 5 from by decide +kernel]; exact Nat.le_of_ble_eq_true rfl) (by decide +kernel),
   fun v1 v2 x st h Q => gx_one (i := .aload_n 0) (len := 1) (by decide +kernel) rfl,
   fun v1 v2 x st h Q => gx_one (i := .aload_n 0) (len := 1) (by decide +kernel) rfl,
   fun v0 v1 v2 a st h Q => gx_get (x := 44) (by decide +kernel) (by decide +kernel),
   fun v0 v1 v2 a0 o h Q => gx_virt (x := 179) (n := 1) (by decide +kernel) (by decide +kernel) rfl (Or.inl (Nat.le_of_ble_eq_true rfl)) (by show _ ≤ mr_mxl 149; rw [show mr_mxl 149 = 4 from by decide +kernel]; exact Nat.le_of_ble_eq_true rfl) (by decide +kernel),
   fun v0 v1 v2 x h Q => gx_ret (i := .ireturn) (len := 1) (by decide +kernel) rfl rfl (by simp only [mr_rt, if_pos]; rw [if_pos (Or.inl (by decide +kernel))])⟩
theorem s_mo_asNow_2 (v0 : Value) (x : Int32) (st : List Value) (h : mr_h) (Q : Option Value → mr_h → Prop) : mr_wp 153 2 [v0, .int x] st h Q = mr_wp 153 3 [v0, .int x] (.int x :: st) h Q := gx_one (i := .iload_n 1) (len := 1) (by decide +kernel) rfl
theorem S_mo_asNow : (∀ (v0 v1 : Value) (st : List Value) (h : mr_h) (Q : Option Value → mr_h → Prop), mr_wp 153 0 [v0, v1] st h Q = mr_wp 153 1 [v0, v1] (.int (0) :: st) h Q) ∧
    (∀ (v1 : Value) (w0 : Nat) (x : Int32) (st : List Value) (h : mr_h) (Q : Option Value → mr_h → Prop), mr_wp 153 1 [.ref w0, v1] (.int x :: st) h Q = mr_wp 153 2 [.ref w0, .int x] st h Q) ∧
    (∀ (v0 v1 : Value) (st : List Value) (h : mr_h) (Q : Option Value → mr_h → Prop), mr_wp 153 3 [v0, v1] st h Q = mr_wp 153 5 [v0, v1] (.int (24) :: st) h Q) ∧
    (∀ (v0 v1 : Value) (x : Int32) (y : Int32) (st : List Value) (h : mr_h) (Q : Option Value → mr_h → Prop), mr_wp 153 5 [v0, v1] (.int y :: .int x :: st) h Q = if y ≤ x then mr_wp 153 26 [v0, v1] st h Q else mr_wp 153 8 [v0, v1] st h Q) ∧
    (∀ (v1 : Value) (x : Nat) (st : List Value) (h : mr_h) (Q : Option Value → mr_h → Prop), mr_wp 153 8 [.ref x, v1] st h Q = mr_wp 153 9 [.ref x, v1] (.ref x :: st) h Q) ∧
    (∀ (v0 v1 : Value) (a : Nat) (st : List Value) (h : mr_h) (Q : Option Value → mr_h → Prop), mr_wp 153 9 [v0, v1] (.ref a :: st) h Q = mr_gf (h.1 a) 11 13 (fun v => mr_wp 153 12 [v0, v1] (v :: st) h Q)) ∧
    (∀ (v0 : Value) (x : Int32) (st : List Value) (h : mr_h) (Q : Option Value → mr_h → Prop), mr_wp 153 12 [v0, .int x] st h Q = mr_wp 153 13 [v0, .int x] (.int x :: st) h Q) ∧
    (∀ (v1 : Value) (x : Nat) (st : List Value) (h : mr_h) (Q : Option Value → mr_h → Prop), mr_wp 153 13 [.ref x, v1] st h Q = mr_wp 153 14 [.ref x, v1] (.ref x :: st) h Q) ∧
    (∀ (v0 v1 : Value) (a : Nat) (st : List Value) (h : mr_h) (Q : Option Value → mr_h → Prop), mr_wp 153 14 [v0, v1] (.ref a :: st) h Q = mr_gf (h.1 a) 11 12 (fun v => mr_wp 153 17 [v0, v1] (v :: st) h Q)) ∧
    (∀ (v0 : Value) (x : Int32) (st : List Value) (h : mr_h) (Q : Option Value → mr_h → Prop), mr_wp 153 17 [v0, .int x] st h Q = mr_wp 153 18 [v0, .int x] (.int x :: st) h Q) ∧
    (∀ (v0 v1 : Value) (a : Nat) (x : Int32) (st : List Value) (h : mr_h) (Q : Option Value → mr_h → Prop), mr_wp 153 18 [v0, v1] (.int x :: .ref a :: st) h Q = mr_ai (h.1 a) x (fun v => mr_wp 153 19 [v0, v1] (.int v :: st) h Q)) ∧
    (∀ (v0 v1 : Value) (a : Nat) (x : Int32) (y : Int32) (st : List Value) (h : mr_h) (Q : Option Value → mr_h → Prop), mr_wp 153 19 [v0, v1] (.int y :: .int x :: .ref a :: st) h Q = mr_si (h.1 a) x y (fun c => mr_wp 153 20 [v0, v1] st (mr_up h a c) Q)) ∧
    (∀ (x : Int32) (w0 : Nat) (st : List Value) (h : mr_h) (Q : Option Value → mr_h → Prop), mr_wp 153 20 [.ref w0, .int x] st h Q = mr_wp 153 23 [.ref w0, .int (x + (1))] st h Q) ∧
    (∀ (v0 v1 : Value) (st : List Value) (h : mr_h) (Q : Option Value → mr_h → Prop), mr_wp 153 23 [v0, v1] st h Q = mr_wp 153 2 [v0, v1] st h Q) ∧
    (∀ (v0 v1 : Value) (h : mr_h) (Q : Option Value → mr_h → Prop), mr_wp 153 26 [v0, v1] [] h Q = Q none h) :=
  ⟨fun v0 v1 st h Q => gx_one (i := .iconst 0) (len := 1) (by decide +kernel) rfl,
   fun v1 w0 x st h Q => gx_one (i := .istore_n 1) (len := 1) (by decide +kernel) rfl,
   fun v0 v1 st h Q => gx_one (i := .bipush 24) (len := 2) (by decide +kernel) rfl,
   fun v0 v1 x y st h Q => gx_br (i := .if_icmp .ge 21) (len := 3) (c := .ge) (by decide +kernel) rfl rfl,
   fun v1 x st h Q => gx_one (i := .aload_n 0) (len := 1) (by decide +kernel) rfl,
   fun v0 v1 a st h Q => gx_get (x := 19) (by decide +kernel) (by decide +kernel),
   fun v0 x st h Q => gx_one (i := .iload_n 1) (len := 1) (by decide +kernel) rfl,
   fun v1 x st h Q => gx_one (i := .aload_n 0) (len := 1) (by decide +kernel) rfl,
   fun v0 v1 a st h Q => gx_get (x := 16) (by decide +kernel) (by decide +kernel),
   fun v0 x st h Q => gx_one (i := .iload_n 1) (len := 1) (by decide +kernel) rfl,
   fun v0 v1 a x st h Q => gx_iald (by decide +kernel),
   fun v0 v1 a x y st h Q => gx_iast (by decide +kernel),
   fun x w0 st h Q => gx_one (i := .iinc 1 1) (len := 3) (by decide +kernel) rfl,
   fun v0 v1 st h Q => gx_one (i := .goto (-21)) (len := 3) (by decide +kernel) rfl,
   fun v0 v1 h Q => gx_ret (i := .return_) (len := 1) (by decide +kernel) rfl rfl (by simp only [mr_rt, if_pos]; rw [if_pos (by decide +kernel)])⟩
theorem s_mo_lone_12 (v0 v1 v2 v3 : Value) (x : Int32) (st : List Value) (h : mr_h) (Q : Option Value → mr_h → Prop) : mr_wp 154 12 [v0, v1, v2, v3, .int x] st h Q = mr_wp 154 14 [v0, v1, v2, v3, .int x] (.int x :: st) h Q := gx_one (i := .iload 4) (len := 2) (by decide +kernel) rfl
theorem S_mo_lone_0 : (∀ (v1 v2 v3 v4 : Value) (x : Nat) (st : List Value) (h : mr_h) (Q : Option Value → mr_h → Prop), mr_wp 154 0 [.ref x, v1, v2, v3, v4] st h Q = mr_wp 154 1 [.ref x, v1, v2, v3, v4] (.ref x :: st) h Q) ∧
    (∀ (v0 v1 v2 v3 v4 : Value) (o : Nat) (h : mr_h) (Q : Option Value → mr_h → Prop), mr_wp 154 1 [v0, v1, v2, v3, v4] [.ref o] h Q = mr_rc (h.1 o) 11 (mr_run 138 [.ref o] h (fun v h' => mr_wp 154 4 [v0, v1, v2, v3, v4] (v.toList ++ []) h' Q))) ∧
    (∀ (v1 v2 v3 v4 : Value) (w0 : Nat) (x : Int32) (st : List Value) (h : mr_h) (Q : Option Value → mr_h → Prop), mr_wp 154 4 [.ref w0, v1, v2, v3, v4] (.int x :: st) h Q = mr_wp 154 5 [.ref w0, .int x, v2, v3, v4] st h Q) ∧
    (∀ (v0 v1 v2 v3 v4 : Value) (st : List Value) (h : mr_h) (Q : Option Value → mr_h → Prop), mr_wp 154 5 [v0, v1, v2, v3, v4] st h Q = mr_wp 154 6 [v0, v1, v2, v3, v4] (.int (0) :: st) h Q) ∧
    (∀ (v0 v2 v3 v4 : Value) (w1 : Int32) (x : Int32) (st : List Value) (h : mr_h) (Q : Option Value → mr_h → Prop), mr_wp 154 6 [v0, .int w1, v2, v3, v4] (.int x :: st) h Q = mr_wp 154 7 [v0, .int w1, .int x, v3, v4] st h Q) ∧
    (∀ (v0 v1 v2 v3 v4 : Value) (st : List Value) (h : mr_h) (Q : Option Value → mr_h → Prop), mr_wp 154 7 [v0, v1, v2, v3, v4] st h Q = mr_wp 154 8 [v0, v1, v2, v3, v4] (.int (0) :: st) h Q) ∧
    (∀ (v0 v1 v3 v4 : Value) (w2 : Int32) (x : Int32) (st : List Value) (h : mr_h) (Q : Option Value → mr_h → Prop), mr_wp 154 8 [v0, v1, .int w2, v3, v4] (.int x :: st) h Q = mr_wp 154 9 [v0, v1, .int w2, .int x, v4] st h Q) ∧
    (∀ (v0 v1 v2 v3 v4 : Value) (st : List Value) (h : mr_h) (Q : Option Value → mr_h → Prop), mr_wp 154 9 [v0, v1, v2, v3, v4] st h Q = mr_wp 154 10 [v0, v1, v2, v3, v4] (.int (0) :: st) h Q) ∧
    (∀ (v0 v1 v2 v4 : Value) (w3 : Int32) (x : Int32) (st : List Value) (h : mr_h) (Q : Option Value → mr_h → Prop), mr_wp 154 10 [v0, v1, v2, .int w3, v4] (.int x :: st) h Q = mr_wp 154 12 [v0, v1, v2, .int w3, .int x] st h Q) ∧
    (∀ (v1 v2 v3 v4 : Value) (x : Nat) (st : List Value) (h : mr_h) (Q : Option Value → mr_h → Prop), mr_wp 154 14 [.ref x, v1, v2, v3, v4] st h Q = mr_wp 154 15 [.ref x, v1, v2, v3, v4] (.ref x :: st) h Q) ∧
    (∀ (v0 v1 v2 v3 v4 : Value) (a : Nat) (st : List Value) (h : mr_h) (Q : Option Value → mr_h → Prop), mr_wp 154 15 [v0, v1, v2, v3, v4] (.ref a :: st) h Q = mr_gf (h.1 a) 11 8 (fun v => mr_wp 154 18 [v0, v1, v2, v3, v4] (v :: st) h Q)) ∧
    (∀ (v0 v1 v2 v3 v4 : Value) (x : Int32) (y : Int32) (st : List Value) (h : mr_h) (Q : Option Value → mr_h → Prop), mr_wp 154 18 [v0, v1, v2, v3, v4] (.int y :: .int x :: st) h Q = if y ≤ x then mr_wp 154 92 [v0, v1, v2, v3, v4] st h Q else mr_wp 154 21 [v0, v1, v2, v3, v4] st h Q) ∧
    (∀ (v0 v1 v3 v4 : Value) (x : Int32) (st : List Value) (h : mr_h) (Q : Option Value → mr_h → Prop), mr_wp 154 21 [v0, v1, .int x, v3, v4] st h Q = mr_wp 154 22 [v0, v1, .int x, v3, v4] (.int x :: st) h Q) ∧
    (∀ (v0 v2 v3 v4 : Value) (x : Int32) (st : List Value) (h : mr_h) (Q : Option Value → mr_h → Prop), mr_wp 154 22 [v0, .int x, v2, v3, v4] st h Q = mr_wp 154 23 [v0, .int x, v2, v3, v4] (.int x :: st) h Q) ∧
    (∀ (v0 v1 v2 v3 : Value) (x : Int32) (st : List Value) (h : mr_h) (Q : Option Value → mr_h → Prop), mr_wp 154 23 [v0, v1, v2, v3, .int x] st h Q = mr_wp 154 25 [v0, v1, v2, v3, .int x] (.int x :: st) h Q) ∧
    (∀ (v0 v1 v2 v3 v4 : Value) (a0 : Int32) (a1 : Int32) (r0 : Value) (h : mr_h) (Q : Option Value → mr_h → Prop), mr_wp 154 25 [v0, v1, v2, v3, v4] [.int a1, .int a0, r0] h Q = mr_run 130 [.int a0, .int a1] h (fun v h' => mr_wp 154 28 [v0, v1, v2, v3, v4] (v.toList ++ [r0]) h' Q)) ∧
    (∀ (v0 v1 v2 v3 v4 : Value) (x : Int32) (st : List Value) (h : mr_h) (Q : Option Value → mr_h → Prop), mr_wp 154 28 [v0, v1, v2, v3, v4] (.int x :: st) h Q = if x = 0 then mr_wp 154 50 [v0, v1, v2, v3, v4] st h Q else mr_wp 154 31 [v0, v1, v2, v3, v4] st h Q) ∧
    (∀ (v1 v2 v3 v4 : Value) (x : Nat) (st : List Value) (h : mr_h) (Q : Option Value → mr_h → Prop), mr_wp 154 31 [.ref x, v1, v2, v3, v4] st h Q = mr_wp 154 32 [.ref x, v1, v2, v3, v4] (.ref x :: st) h Q) ∧
    (∀ (v0 v1 v2 v3 : Value) (x : Int32) (st : List Value) (h : mr_h) (Q : Option Value → mr_h → Prop), mr_wp 154 32 [v0, v1, v2, v3, .int x] st h Q = mr_wp 154 34 [v0, v1, v2, v3, .int x] (.int x :: st) h Q) ∧
    (∀ (v0 v1 v2 v3 v4 : Value) (a0 : Int32) (o : Nat) (r0 : Value) (h : mr_h) (Q : Option Value → mr_h → Prop), mr_wp 154 34 [v0, v1, v2, v3, v4] [.int a0, .ref o, r0] h Q = mr_rc (h.1 o) 11 (mr_run 136 [.ref o, .int a0] h (fun v h' => mr_wp 154 37 [v0, v1, v2, v3, v4] (v.toList ++ [r0]) h' Q))) ∧
    (∀ (v1 v2 v3 v4 : Value) (x : Nat) (st : List Value) (h : mr_h) (Q : Option Value → mr_h → Prop), mr_wp 154 37 [.ref x, v1, v2, v3, v4] st h Q = mr_wp 154 38 [.ref x, v1, v2, v3, v4] (.ref x :: st) h Q) ∧
    (∀ (v0 v1 v2 v3 : Value) (x : Int32) (st : List Value) (h : mr_h) (Q : Option Value → mr_h → Prop), mr_wp 154 38 [v0, v1, v2, v3, .int x] st h Q = mr_wp 154 40 [v0, v1, v2, v3, .int x] (.int x :: st) h Q) ∧
    (∀ (v0 v1 v2 v3 v4 : Value) (a0 : Int32) (o : Nat) (r0 : Value) (r1 : Value) (h : mr_h) (Q : Option Value → mr_h → Prop), mr_wp 154 40 [v0, v1, v2, v3, v4] [.int a0, .ref o, r0, r1] h Q = mr_rc (h.1 o) 11 (mr_run 135 [.ref o, .int a0] h (fun v h' => mr_wp 154 43 [v0, v1, v2, v3, v4] (v.toList ++ [r0, r1]) h' Q))) ∧
    (∀ (v0 v1 v2 v3 v4 : Value) (x : Int32) (y : Int32) (st : List Value) (h : mr_h) (Q : Option Value → mr_h → Prop), mr_wp 154 43 [v0, v1, v2, v3, v4] (.int y :: .int x :: st) h Q = if ¬ x = y then mr_wp 154 50 [v0, v1, v2, v3, v4] st h Q else mr_wp 154 46 [v0, v1, v2, v3, v4] st h Q) ∧
    (∀ (v0 v1 v2 v3 v4 : Value) (st : List Value) (h : mr_h) (Q : Option Value → mr_h → Prop), mr_wp 154 46 [v0, v1, v2, v3, v4] st h Q = mr_wp 154 47 [v0, v1, v2, v3, v4] (.int (1) :: st) h Q) ∧
    (∀ (v0 v1 v2 v3 v4 : Value) (st : List Value) (h : mr_h) (Q : Option Value → mr_h → Prop), mr_wp 154 47 [v0, v1, v2, v3, v4] st h Q = mr_wp 154 51 [v0, v1, v2, v3, v4] st h Q) ∧
    (∀ (v0 v1 v2 v3 v4 : Value) (st : List Value) (h : mr_h) (Q : Option Value → mr_h → Prop), mr_wp 154 50 [v0, v1, v2, v3, v4] st h Q = mr_wp 154 51 [v0, v1, v2, v3, v4] (.int (0) :: st) h Q) ∧
    (∀ (v0 v1 v2 v3 v4 : Value) (x : Int32) (y : Int32) (st : List Value) (h : mr_h) (Q : Option Value → mr_h → Prop), mr_wp 154 51 [v0, v1, v2, v3, v4] (.int y :: .int x :: st) h Q = mr_wp 154 52 [v0, v1, v2, v3, v4] (.int (x + y) :: st) h Q) ∧
    (∀ (v0 v2 v3 v4 : Value) (w1 : Int32) (x : Int32) (st : List Value) (h : mr_h) (Q : Option Value → mr_h → Prop), mr_wp 154 52 [v0, .int w1, v2, v3, v4] (.int x :: st) h Q = mr_wp 154 53 [v0, .int w1, .int x, v3, v4] st h Q) ∧
    (∀ (v0 v1 v2 v4 : Value) (x : Int32) (st : List Value) (h : mr_h) (Q : Option Value → mr_h → Prop), mr_wp 154 53 [v0, v1, v2, .int x, v4] st h Q = mr_wp 154 54 [v0, v1, v2, .int x, v4] (.int x :: st) h Q) ∧
    (∀ (v0 v2 v3 v4 : Value) (x : Int32) (st : List Value) (h : mr_h) (Q : Option Value → mr_h → Prop), mr_wp 154 54 [v0, .int x, v2, v3, v4] st h Q = mr_wp 154 55 [v0, .int x, v2, v3, v4] (.int x :: st) h Q) ∧
    (∀ (v0 v1 v2 v3 : Value) (x : Int32) (st : List Value) (h : mr_h) (Q : Option Value → mr_h → Prop), mr_wp 154 55 [v0, v1, v2, v3, .int x] st h Q = mr_wp 154 57 [v0, v1, v2, v3, .int x] (.int x :: st) h Q) ∧
    (∀ (v0 v1 v2 v3 v4 : Value) (a0 : Int32) (a1 : Int32) (r0 : Value) (h : mr_h) (Q : Option Value → mr_h → Prop), mr_wp 154 57 [v0, v1, v2, v3, v4] [.int a1, .int a0, r0] h Q = mr_run 130 [.int a0, .int a1] h (fun v h' => mr_wp 154 60 [v0, v1, v2, v3, v4] (v.toList ++ [r0]) h' Q)) ∧
    (∀ (v0 v1 v2 v3 v4 : Value) (x : Int32) (st : List Value) (h : mr_h) (Q : Option Value → mr_h → Prop), mr_wp 154 60 [v0, v1, v2, v3, v4] (.int x :: st) h Q = if x = 0 then mr_wp 154 83 [v0, v1, v2, v3, v4] st h Q else mr_wp 154 63 [v0, v1, v2, v3, v4] st h Q) ∧
    (∀ (v1 v2 v3 v4 : Value) (x : Nat) (st : List Value) (h : mr_h) (Q : Option Value → mr_h → Prop), mr_wp 154 63 [.ref x, v1, v2, v3, v4] st h Q = mr_wp 154 64 [.ref x, v1, v2, v3, v4] (.ref x :: st) h Q) ∧
    (∀ (v0 v1 v2 v3 v4 : Value) (a : Nat) (st : List Value) (h : mr_h) (Q : Option Value → mr_h → Prop), mr_wp 154 64 [v0, v1, v2, v3, v4] (.ref a :: st) h Q = mr_gf (h.1 a) 11 22 (fun v => mr_wp 154 67 [v0, v1, v2, v3, v4] (v :: st) h Q)) ∧
    (∀ (v0 v1 v2 v3 : Value) (x : Int32) (st : List Value) (h : mr_h) (Q : Option Value → mr_h → Prop), mr_wp 154 67 [v0, v1, v2, v3, .int x] st h Q = mr_wp 154 69 [v0, v1, v2, v3, .int x] (.int x :: st) h Q) ∧
    (∀ (v0 v1 v2 v3 v4 : Value) (a : Nat) (x : Int32) (st : List Value) (h : mr_h) (Q : Option Value → mr_h → Prop), mr_wp 154 69 [v0, v1, v2, v3, v4] (.int x :: .ref a :: st) h Q = mr_ai (h.1 a) x (fun v => mr_wp 154 70 [v0, v1, v2, v3, v4] (.int v :: st) h Q)) ∧
    (∀ (v1 v2 v3 v4 : Value) (x : Nat) (st : List Value) (h : mr_h) (Q : Option Value → mr_h → Prop), mr_wp 154 70 [.ref x, v1, v2, v3, v4] st h Q = mr_wp 154 71 [.ref x, v1, v2, v3, v4] (.ref x :: st) h Q) ∧
    (∀ (v0 v1 v2 v3 : Value) (x : Int32) (st : List Value) (h : mr_h) (Q : Option Value → mr_h → Prop), mr_wp 154 71 [v0, v1, v2, v3, .int x] st h Q = mr_wp 154 73 [v0, v1, v2, v3, .int x] (.int x :: st) h Q) :=
  ⟨fun v1 v2 v3 v4 x st h Q => gx_one (i := .aload_n 0) (len := 1) (by decide +kernel) rfl,
   fun v0 v1 v2 v3 v4 o h Q => gx_virt (x := 162) (n := 0) (by decide +kernel) (by decide +kernel) rfl (Or.inl (Nat.le_of_ble_eq_true rfl)) (by show _ ≤ mr_mxl 138; rw [show mr_mxl 138 = 3 from by decide +kernel]; exact Nat.le_of_ble_eq_true rfl) (by decide +kernel),
   fun v1 v2 v3 v4 w0 x st h Q => gx_one (i := .istore_n 1) (len := 1) (by decide +kernel) rfl,
   fun v0 v1 v2 v3 v4 st h Q => gx_one (i := .iconst 0) (len := 1) (by decide +kernel) rfl,
   fun v0 v2 v3 v4 w1 x st h Q => gx_one (i := .istore_n 2) (len := 1) (by decide +kernel) rfl,
   fun v0 v1 v2 v3 v4 st h Q => gx_one (i := .iconst 0) (len := 1) (by decide +kernel) rfl,
   fun v0 v1 v3 v4 w2 x st h Q => gx_one (i := .istore_n 3) (len := 1) (by decide +kernel) rfl,
   fun v0 v1 v2 v3 v4 st h Q => gx_one (i := .iconst 0) (len := 1) (by decide +kernel) rfl,
   fun v0 v1 v2 v4 w3 x st h Q => gx_one (i := .istore 4) (len := 2) (by decide +kernel) rfl,
   fun v1 v2 v3 v4 x st h Q => gx_one (i := .aload_n 0) (len := 1) (by decide +kernel) rfl,
   fun v0 v1 v2 v3 v4 a st h Q => gx_get (x := 123) (by decide +kernel) (by decide +kernel),
   fun v0 v1 v2 v3 v4 x y st h Q => gx_br (i := .if_icmp .ge 74) (len := 3) (c := .ge) (by decide +kernel) rfl rfl,
   fun v0 v1 v3 v4 x st h Q => gx_one (i := .iload_n 2) (len := 1) (by decide +kernel) rfl,
   fun v0 v2 v3 v4 x st h Q => gx_one (i := .iload_n 1) (len := 1) (by decide +kernel) rfl,
   fun v0 v1 v2 v3 x st h Q => gx_one (i := .iload 4) (len := 2) (by decide +kernel) rfl,
   fun v0 v1 v2 v3 v4 a0 a1 r0 h Q => gx_stat (x := 116) (t := 130) (n := 2) (by decide +kernel) (by decide +kernel) (by decide) (by decide +kernel) rfl (Or.inl (Nat.le_of_ble_eq_true rfl)) (by show _ ≤ mr_mxl 130; rw [show mr_mxl 130 = 2 from by decide +kernel]; exact Nat.le_of_ble_eq_true rfl),
   fun v0 v1 v2 v3 v4 x st h Q => gx_br (i := .ifCond .eq 22) (len := 3) (c := .eq) (by decide +kernel) rfl rfl,
   fun v1 v2 v3 v4 x st h Q => gx_one (i := .aload_n 0) (len := 1) (by decide +kernel) rfl,
   fun v0 v1 v2 v3 x st h Q => gx_one (i := .iload 4) (len := 2) (by decide +kernel) rfl,
   fun v0 v1 v2 v3 v4 a0 o r0 h Q => gx_virt (x := 139) (n := 1) (by decide +kernel) (by decide +kernel) rfl (Or.inl (Nat.le_of_ble_eq_true rfl)) (by show _ ≤ mr_mxl 136; rw [show mr_mxl 136 = 4 from by decide +kernel]; exact Nat.le_of_ble_eq_true rfl) (by decide +kernel),
   fun v1 v2 v3 v4 x st h Q => gx_one (i := .aload_n 0) (len := 1) (by decide +kernel) rfl,
   fun v0 v1 v2 v3 x st h Q => gx_one (i := .iload 4) (len := 2) (by decide +kernel) rfl,
   fun v0 v1 v2 v3 v4 a0 o r0 r1 h Q => gx_virt (x := 142) (n := 1) (by decide +kernel) (by decide +kernel) rfl (Or.inl (Nat.le_of_ble_eq_true rfl)) (by show _ ≤ mr_mxl 135; rw [show mr_mxl 135 = 2 from by decide +kernel]; exact Nat.le_of_ble_eq_true rfl) (by decide +kernel),
   fun v0 v1 v2 v3 v4 x y st h Q => gx_br (i := .if_icmp .ne 7) (len := 3) (c := .ne) (by decide +kernel) rfl rfl,
   fun v0 v1 v2 v3 v4 st h Q => gx_one (i := .iconst 1) (len := 1) (by decide +kernel) rfl,
   fun v0 v1 v2 v3 v4 st h Q => gx_one (i := .goto 4) (len := 3) (by decide +kernel) rfl,
   fun v0 v1 v2 v3 v4 st h Q => gx_one (i := .iconst 0) (len := 1) (by decide +kernel) rfl,
   fun v0 v1 v2 v3 v4 x y st h Q => gx_one (i := .iadd) (len := 1) (by decide +kernel) rfl,
   fun v0 v2 v3 v4 w1 x st h Q => gx_one (i := .istore_n 2) (len := 1) (by decide +kernel) rfl,
   fun v0 v1 v2 v4 x st h Q => gx_one (i := .iload_n 3) (len := 1) (by decide +kernel) rfl,
   fun v0 v2 v3 v4 x st h Q => gx_one (i := .iload_n 1) (len := 1) (by decide +kernel) rfl,
   fun v0 v1 v2 v3 x st h Q => gx_one (i := .iload 4) (len := 2) (by decide +kernel) rfl,
   fun v0 v1 v2 v3 v4 a0 a1 r0 h Q => gx_stat (x := 116) (t := 130) (n := 2) (by decide +kernel) (by decide +kernel) (by decide) (by decide +kernel) rfl (Or.inl (Nat.le_of_ble_eq_true rfl)) (by show _ ≤ mr_mxl 130; rw [show mr_mxl 130 = 2 from by decide +kernel]; exact Nat.le_of_ble_eq_true rfl),
   fun v0 v1 v2 v3 v4 x st h Q => gx_br (i := .ifCond .eq 23) (len := 3) (c := .eq) (by decide +kernel) rfl rfl,
   fun v1 v2 v3 v4 x st h Q => gx_one (i := .aload_n 0) (len := 1) (by decide +kernel) rfl,
   fun v0 v1 v2 v3 v4 a st h Q => gx_get (x := 41) (by decide +kernel) (by decide +kernel),
   fun v0 v1 v2 v3 x st h Q => gx_one (i := .iload 4) (len := 2) (by decide +kernel) rfl,
   fun v0 v1 v2 v3 v4 a x st h Q => gx_iald (by decide +kernel),
   fun v1 v2 v3 v4 x st h Q => gx_one (i := .aload_n 0) (len := 1) (by decide +kernel) rfl,
   fun v0 v1 v2 v3 x st h Q => gx_one (i := .iload 4) (len := 2) (by decide +kernel) rfl⟩
theorem S_mo_lone_1 : (∀ (v0 v1 v2 v3 v4 : Value) (a0 : Int32) (o : Nat) (r0 : Value) (r1 : Value) (h : mr_h) (Q : Option Value → mr_h → Prop), mr_wp 154 73 [v0, v1, v2, v3, v4] [.int a0, .ref o, r0, r1] h Q = mr_rc (h.1 o) 11 (mr_run 135 [.ref o, .int a0] h (fun v h' => mr_wp 154 76 [v0, v1, v2, v3, v4] (v.toList ++ [r0, r1]) h' Q))) ∧
    (∀ (v0 v1 v2 v3 v4 : Value) (x : Int32) (y : Int32) (st : List Value) (h : mr_h) (Q : Option Value → mr_h → Prop), mr_wp 154 76 [v0, v1, v2, v3, v4] (.int y :: .int x :: st) h Q = if ¬ x = y then mr_wp 154 83 [v0, v1, v2, v3, v4] st h Q else mr_wp 154 79 [v0, v1, v2, v3, v4] st h Q) ∧
    (∀ (v0 v1 v2 v3 v4 : Value) (st : List Value) (h : mr_h) (Q : Option Value → mr_h → Prop), mr_wp 154 79 [v0, v1, v2, v3, v4] st h Q = mr_wp 154 80 [v0, v1, v2, v3, v4] (.int (1) :: st) h Q) ∧
    (∀ (v0 v1 v2 v3 v4 : Value) (st : List Value) (h : mr_h) (Q : Option Value → mr_h → Prop), mr_wp 154 80 [v0, v1, v2, v3, v4] st h Q = mr_wp 154 84 [v0, v1, v2, v3, v4] st h Q) ∧
    (∀ (v0 v1 v2 v3 v4 : Value) (st : List Value) (h : mr_h) (Q : Option Value → mr_h → Prop), mr_wp 154 83 [v0, v1, v2, v3, v4] st h Q = mr_wp 154 84 [v0, v1, v2, v3, v4] (.int (0) :: st) h Q) ∧
    (∀ (v0 v1 v2 v3 v4 : Value) (x : Int32) (y : Int32) (st : List Value) (h : mr_h) (Q : Option Value → mr_h → Prop), mr_wp 154 84 [v0, v1, v2, v3, v4] (.int y :: .int x :: st) h Q = mr_wp 154 85 [v0, v1, v2, v3, v4] (.int (x + y) :: st) h Q) ∧
    (∀ (v0 v1 v3 v4 : Value) (w2 : Int32) (x : Int32) (st : List Value) (h : mr_h) (Q : Option Value → mr_h → Prop), mr_wp 154 85 [v0, v1, .int w2, v3, v4] (.int x :: st) h Q = mr_wp 154 86 [v0, v1, .int w2, .int x, v4] st h Q) ∧
    (∀ (v0 v1 v2 : Value) (x : Int32) (w3 : Int32) (st : List Value) (h : mr_h) (Q : Option Value → mr_h → Prop), mr_wp 154 86 [v0, v1, v2, .int w3, .int x] st h Q = mr_wp 154 89 [v0, v1, v2, .int w3, .int (x + (1))] st h Q) ∧
    (∀ (v0 v1 v2 v3 v4 : Value) (st : List Value) (h : mr_h) (Q : Option Value → mr_h → Prop), mr_wp 154 89 [v0, v1, v2, v3, v4] st h Q = mr_wp 154 12 [v0, v1, v2, v3, v4] st h Q) ∧
    (∀ (v0 v2 v3 v4 : Value) (x : Int32) (st : List Value) (h : mr_h) (Q : Option Value → mr_h → Prop), mr_wp 154 92 [v0, .int x, v2, v3, v4] st h Q = mr_wp 154 93 [v0, .int x, v2, v3, v4] (.int x :: st) h Q) ∧
    (∀ (v0 v1 v2 v3 v4 : Value) (a0 : Int32) (h : mr_h) (Q : Option Value → mr_h → Prop), mr_wp 154 93 [v0, v1, v2, v3, v4] [.int a0] h Q = mr_run 147 [.int a0] h (fun v h' => mr_wp 154 96 [v0, v1, v2, v3, v4] (v.toList ++ []) h' Q)) ∧
    (∀ (v0 v1 v2 v3 v4 : Value) (st : List Value) (h : mr_h) (Q : Option Value → mr_h → Prop), mr_wp 154 96 [v0, v1, v2, v3, v4] st h Q = mr_wp 154 97 [v0, v1, v2, v3, v4] (.int (1) :: st) h Q) ∧
    (∀ (v0 v1 v2 v3 v4 : Value) (x : Int32) (y : Int32) (st : List Value) (h : mr_h) (Q : Option Value → mr_h → Prop), mr_wp 154 97 [v0, v1, v2, v3, v4] (.int y :: .int x :: st) h Q = if ¬ x = y then mr_wp 154 104 [v0, v1, v2, v3, v4] st h Q else mr_wp 154 100 [v0, v1, v2, v3, v4] st h Q) ∧
    (∀ (v0 v1 v2 v3 v4 : Value) (st : List Value) (h : mr_h) (Q : Option Value → mr_h → Prop), mr_wp 154 100 [v0, v1, v2, v3, v4] st h Q = mr_wp 154 101 [v0, v1, v2, v3, v4] (.int (0) :: st) h Q) ∧
    (∀ (v0 v1 v2 v3 v4 : Value) (st : List Value) (h : mr_h) (Q : Option Value → mr_h → Prop), mr_wp 154 101 [v0, v1, v2, v3, v4] st h Q = mr_wp 154 114 [v0, v1, v2, v3, v4] st h Q) ∧
    (∀ (v0 v1 v3 v4 : Value) (x : Int32) (st : List Value) (h : mr_h) (Q : Option Value → mr_h → Prop), mr_wp 154 104 [v0, v1, .int x, v3, v4] st h Q = mr_wp 154 105 [v0, v1, .int x, v3, v4] (.int x :: st) h Q) ∧
    (∀ (v0 v1 v2 v4 : Value) (x : Int32) (st : List Value) (h : mr_h) (Q : Option Value → mr_h → Prop), mr_wp 154 105 [v0, v1, v2, .int x, v4] st h Q = mr_wp 154 106 [v0, v1, v2, .int x, v4] (.int x :: st) h Q) ∧
    (∀ (v0 v1 v2 v3 v4 : Value) (x : Int32) (y : Int32) (st : List Value) (h : mr_h) (Q : Option Value → mr_h → Prop), mr_wp 154 106 [v0, v1, v2, v3, v4] (.int y :: .int x :: st) h Q = if x ≤ y then mr_wp 154 113 [v0, v1, v2, v3, v4] st h Q else mr_wp 154 109 [v0, v1, v2, v3, v4] st h Q) ∧
    (∀ (v0 v1 v3 v4 : Value) (x : Int32) (st : List Value) (h : mr_h) (Q : Option Value → mr_h → Prop), mr_wp 154 109 [v0, v1, .int x, v3, v4] st h Q = mr_wp 154 110 [v0, v1, .int x, v3, v4] (.int x :: st) h Q) ∧
    (∀ (v0 v1 v2 v3 v4 : Value) (st : List Value) (h : mr_h) (Q : Option Value → mr_h → Prop), mr_wp 154 110 [v0, v1, v2, v3, v4] st h Q = mr_wp 154 114 [v0, v1, v2, v3, v4] st h Q) ∧
    (∀ (v0 v1 v2 v4 : Value) (x : Int32) (st : List Value) (h : mr_h) (Q : Option Value → mr_h → Prop), mr_wp 154 113 [v0, v1, v2, .int x, v4] st h Q = mr_wp 154 114 [v0, v1, v2, .int x, v4] (.int x :: st) h Q) ∧
    (∀ (v0 v1 v2 v3 v4 : Value) (x : Int32) (h : mr_h) (Q : Option Value → mr_h → Prop), mr_wp 154 114 [v0, v1, v2, v3, v4] [.int x] h Q = Q (some (.int x)) h) :=
  ⟨fun v0 v1 v2 v3 v4 a0 o r0 r1 h Q => gx_virt (x := 142) (n := 1) (by decide +kernel) (by decide +kernel) rfl (Or.inl (Nat.le_of_ble_eq_true rfl)) (by show _ ≤ mr_mxl 135; rw [show mr_mxl 135 = 2 from by decide +kernel]; exact Nat.le_of_ble_eq_true rfl) (by decide +kernel),
   fun v0 v1 v2 v3 v4 x y st h Q => gx_br (i := .if_icmp .ne 7) (len := 3) (c := .ne) (by decide +kernel) rfl rfl,
   fun v0 v1 v2 v3 v4 st h Q => gx_one (i := .iconst 1) (len := 1) (by decide +kernel) rfl,
   fun v0 v1 v2 v3 v4 st h Q => gx_one (i := .goto 4) (len := 3) (by decide +kernel) rfl,
   fun v0 v1 v2 v3 v4 st h Q => gx_one (i := .iconst 0) (len := 1) (by decide +kernel) rfl,
   fun v0 v1 v2 v3 v4 x y st h Q => gx_one (i := .iadd) (len := 1) (by decide +kernel) rfl,
   fun v0 v1 v3 v4 w2 x st h Q => gx_one (i := .istore_n 3) (len := 1) (by decide +kernel) rfl,
   fun v0 v1 v2 x w3 st h Q => gx_one (i := .iinc 4 1) (len := 3) (by decide +kernel) rfl,
   fun v0 v1 v2 v3 v4 st h Q => gx_one (i := .goto (-77)) (len := 3) (by decide +kernel) rfl,
   fun v0 v2 v3 v4 x st h Q => gx_one (i := .iload_n 1) (len := 1) (by decide +kernel) rfl,
   fun v0 v1 v2 v3 v4 a0 h Q => gx_stat (x := 136) (t := 147) (n := 1) (by decide +kernel) (by decide +kernel) (by decide) (by decide +kernel) rfl (Or.inl (Nat.le_of_ble_eq_true rfl)) (by show _ ≤ mr_mxl 147; rw [show mr_mxl 147 = 3 from by decide +kernel]; exact Nat.le_of_ble_eq_true rfl),
   fun v0 v1 v2 v3 v4 st h Q => gx_one (i := .iconst 1) (len := 1) (by decide +kernel) rfl,
   fun v0 v1 v2 v3 v4 x y st h Q => gx_br (i := .if_icmp .ne 7) (len := 3) (c := .ne) (by decide +kernel) rfl rfl,
   fun v0 v1 v2 v3 v4 st h Q => gx_one (i := .iconst 0) (len := 1) (by decide +kernel) rfl,
   fun v0 v1 v2 v3 v4 st h Q => gx_one (i := .goto 13) (len := 3) (by decide +kernel) rfl,
   fun v0 v1 v3 v4 x st h Q => gx_one (i := .iload_n 2) (len := 1) (by decide +kernel) rfl,
   fun v0 v1 v2 v4 x st h Q => gx_one (i := .iload_n 3) (len := 1) (by decide +kernel) rfl,
   fun v0 v1 v2 v3 v4 x y st h Q => gx_br (i := .if_icmp .le 7) (len := 3) (c := .le) (by decide +kernel) rfl rfl,
   fun v0 v1 v3 v4 x st h Q => gx_one (i := .iload_n 2) (len := 1) (by decide +kernel) rfl,
   fun v0 v1 v2 v3 v4 st h Q => gx_one (i := .goto 4) (len := 3) (by decide +kernel) rfl,
   fun v0 v1 v2 v4 x st h Q => gx_one (i := .iload_n 3) (len := 1) (by decide +kernel) rfl,
   fun v0 v1 v2 v3 v4 x h Q => gx_ret (i := .ireturn) (len := 1) (by decide +kernel) rfl rfl (by simp only [mr_rt, if_pos]; rw [if_pos (Or.inl (by decide +kernel))])⟩

theorem s_mo_chain_9 (v0 v1 v2 v4 v5 v6 : Value) (x : Int32) (st : List Value) (h : mr_h) (Q : Option Value → mr_h → Prop) : mr_wp 155 9 [v0, v1, v2, .int x, v4, v5, v6] st h Q = mr_wp 155 10 [v0, v1, v2, .int x, v4, v5, v6] (.int x :: st) h Q := gx_one (i := .iload_n 3) (len := 1) (by decide +kernel) rfl
theorem s_mo_chain_32 (v0 v1 v2 v4 v5 v6 : Value) (x : Int32) (st : List Value) (h : mr_h) (Q : Option Value → mr_h → Prop) : mr_wp 155 32 [v0, v1, v2, .int x, v4, v5, v6] st h Q = mr_wp 155 33 [v0, v1, v2, .int x, v4, v5, v6] (.int x :: st) h Q := gx_one (i := .iload_n 3) (len := 1) (by decide +kernel) rfl
theorem s_mo_chain_43 (v0 v1 v2 v3 v5 v6 : Value) (x : Int32) (st : List Value) (h : mr_h) (Q : Option Value → mr_h → Prop) : mr_wp 155 43 [v0, v1, v2, v3, .int x, v5, v6] st h Q = mr_wp 155 45 [v0, v1, v2, v3, .int x, v5, v6] (.int x :: st) h Q := gx_one (i := .iload 4) (len := 2) (by decide +kernel) rfl
theorem s_mo_chain_55 (v0 v1 v2 v3 v4 v6 : Value) (x : Int32) (st : List Value) (h : mr_h) (Q : Option Value → mr_h → Prop) : mr_wp 155 55 [v0, v1, v2, v3, v4, .int x, v6] st h Q = mr_wp 155 57 [v0, v1, v2, v3, v4, .int x, v6] (.int x :: st) h Q := gx_one (i := .iload 5) (len := 2) (by decide +kernel) rfl
theorem S_mo_chain_0 : (∀ (v1 v2 v3 v4 v5 v6 : Value) (x : Nat) (st : List Value) (h : mr_h) (Q : Option Value → mr_h → Prop), mr_wp 155 0 [.ref x, v1, v2, v3, v4, v5, v6] st h Q = mr_wp 155 1 [.ref x, v1, v2, v3, v4, v5, v6] (.ref x :: st) h Q) ∧
    (∀ (v0 v1 v2 v3 v4 v5 v6 : Value) (o : Nat) (h : mr_h) (Q : Option Value → mr_h → Prop), mr_wp 155 1 [v0, v1, v2, v3, v4, v5, v6] [.ref o] h Q = mr_rc (h.1 o) 11 (mr_run 138 [.ref o] h (fun v h' => mr_wp 155 4 [v0, v1, v2, v3, v4, v5, v6] (v.toList ++ []) h' Q))) ∧
    (∀ (v1 v2 v3 v4 v5 v6 : Value) (w0 : Nat) (x : Int32) (st : List Value) (h : mr_h) (Q : Option Value → mr_h → Prop), mr_wp 155 4 [.ref w0, v1, v2, v3, v4, v5, v6] (.int x :: st) h Q = mr_wp 155 5 [.ref w0, .int x, v2, v3, v4, v5, v6] st h Q) ∧
    (∀ (v0 v1 v2 v3 v4 v5 v6 : Value) (st : List Value) (h : mr_h) (Q : Option Value → mr_h → Prop), mr_wp 155 5 [v0, v1, v2, v3, v4, v5, v6] st h Q = mr_wp 155 6 [v0, v1, v2, v3, v4, v5, v6] (.int (0) :: st) h Q) ∧
    (∀ (v0 v2 v3 v4 v5 v6 : Value) (w1 : Int32) (x : Int32) (st : List Value) (h : mr_h) (Q : Option Value → mr_h → Prop), mr_wp 155 6 [v0, .int w1, v2, v3, v4, v5, v6] (.int x :: st) h Q = mr_wp 155 7 [v0, .int w1, .int x, v3, v4, v5, v6] st h Q) ∧
    (∀ (v0 v1 v2 v3 v4 v5 v6 : Value) (st : List Value) (h : mr_h) (Q : Option Value → mr_h → Prop), mr_wp 155 7 [v0, v1, v2, v3, v4, v5, v6] st h Q = mr_wp 155 8 [v0, v1, v2, v3, v4, v5, v6] (.int (0) :: st) h Q) ∧
    (∀ (v0 v1 v3 v4 v5 v6 : Value) (w2 : Int32) (x : Int32) (st : List Value) (h : mr_h) (Q : Option Value → mr_h → Prop), mr_wp 155 8 [v0, v1, .int w2, v3, v4, v5, v6] (.int x :: st) h Q = mr_wp 155 9 [v0, v1, .int w2, .int x, v4, v5, v6] st h Q) ∧
    (∀ (v1 v2 v3 v4 v5 v6 : Value) (x : Nat) (st : List Value) (h : mr_h) (Q : Option Value → mr_h → Prop), mr_wp 155 10 [.ref x, v1, v2, v3, v4, v5, v6] st h Q = mr_wp 155 11 [.ref x, v1, v2, v3, v4, v5, v6] (.ref x :: st) h Q) ∧
    (∀ (v0 v1 v2 v3 v4 v5 v6 : Value) (a : Nat) (st : List Value) (h : mr_h) (Q : Option Value → mr_h → Prop), mr_wp 155 11 [v0, v1, v2, v3, v4, v5, v6] (.ref a :: st) h Q = mr_gf (h.1 a) 11 8 (fun v => mr_wp 155 14 [v0, v1, v2, v3, v4, v5, v6] (v :: st) h Q)) ∧
    (∀ (v0 v1 v2 v3 v4 v5 v6 : Value) (x : Int32) (y : Int32) (st : List Value) (h : mr_h) (Q : Option Value → mr_h → Prop), mr_wp 155 14 [v0, v1, v2, v3, v4, v5, v6] (.int y :: .int x :: st) h Q = if y ≤ x then mr_wp 155 30 [v0, v1, v2, v3, v4, v5, v6] st h Q else mr_wp 155 17 [v0, v1, v2, v3, v4, v5, v6] st h Q) ∧
    (∀ (v1 v2 v3 v4 v5 v6 : Value) (x : Nat) (st : List Value) (h : mr_h) (Q : Option Value → mr_h → Prop), mr_wp 155 17 [.ref x, v1, v2, v3, v4, v5, v6] st h Q = mr_wp 155 18 [.ref x, v1, v2, v3, v4, v5, v6] (.ref x :: st) h Q) ∧
    (∀ (v0 v1 v2 v3 v4 v5 v6 : Value) (a : Nat) (st : List Value) (h : mr_h) (Q : Option Value → mr_h → Prop), mr_wp 155 18 [v0, v1, v2, v3, v4, v5, v6] (.ref a :: st) h Q = mr_gf (h.1 a) 11 24 (fun v => mr_wp 155 21 [v0, v1, v2, v3, v4, v5, v6] (v :: st) h Q)) ∧
    (∀ (v0 v1 v2 v4 v5 v6 : Value) (x : Int32) (st : List Value) (h : mr_h) (Q : Option Value → mr_h → Prop), mr_wp 155 21 [v0, v1, v2, .int x, v4, v5, v6] st h Q = mr_wp 155 22 [v0, v1, v2, .int x, v4, v5, v6] (.int x :: st) h Q) ∧
    (∀ (v0 v1 v2 v3 v4 v5 v6 : Value) (st : List Value) (h : mr_h) (Q : Option Value → mr_h → Prop), mr_wp 155 22 [v0, v1, v2, v3, v4, v5, v6] st h Q = mr_wp 155 23 [v0, v1, v2, v3, v4, v5, v6] (.int (1) :: st) h Q) ∧
    (∀ (v0 v1 v2 v3 v4 v5 v6 : Value) (a : Nat) (x : Int32) (y : Int32) (st : List Value) (h : mr_h) (Q : Option Value → mr_h → Prop), mr_wp 155 23 [v0, v1, v2, v3, v4, v5, v6] (.int y :: .int x :: .ref a :: st) h Q = mr_si (h.1 a) x y (fun c => mr_wp 155 24 [v0, v1, v2, v3, v4, v5, v6] st (mr_up h a c) Q)) ∧
    (∀ (v0 v1 v4 v5 v6 : Value) (x : Int32) (w2 : Int32) (st : List Value) (h : mr_h) (Q : Option Value → mr_h → Prop), mr_wp 155 24 [v0, v1, .int w2, .int x, v4, v5, v6] st h Q = mr_wp 155 27 [v0, v1, .int w2, .int (x + (1)), v4, v5, v6] st h Q) ∧
    (∀ (v0 v1 v2 v3 v4 v5 v6 : Value) (st : List Value) (h : mr_h) (Q : Option Value → mr_h → Prop), mr_wp 155 27 [v0, v1, v2, v3, v4, v5, v6] st h Q = mr_wp 155 9 [v0, v1, v2, v3, v4, v5, v6] st h Q) ∧
    (∀ (v0 v1 v2 v3 v4 v5 v6 : Value) (st : List Value) (h : mr_h) (Q : Option Value → mr_h → Prop), mr_wp 155 30 [v0, v1, v2, v3, v4, v5, v6] st h Q = mr_wp 155 31 [v0, v1, v2, v3, v4, v5, v6] (.int (0) :: st) h Q) ∧
    (∀ (v0 v1 v3 v4 v5 v6 : Value) (w2 : Int32) (x : Int32) (st : List Value) (h : mr_h) (Q : Option Value → mr_h → Prop), mr_wp 155 31 [v0, v1, .int w2, v3, v4, v5, v6] (.int x :: st) h Q = mr_wp 155 32 [v0, v1, .int w2, .int x, v4, v5, v6] st h Q) ∧
    (∀ (v1 v2 v3 v4 v5 v6 : Value) (x : Nat) (st : List Value) (h : mr_h) (Q : Option Value → mr_h → Prop), mr_wp 155 33 [.ref x, v1, v2, v3, v4, v5, v6] st h Q = mr_wp 155 34 [.ref x, v1, v2, v3, v4, v5, v6] (.ref x :: st) h Q) ∧
    (∀ (v0 v1 v2 v3 v4 v5 v6 : Value) (a : Nat) (st : List Value) (h : mr_h) (Q : Option Value → mr_h → Prop), mr_wp 155 34 [v0, v1, v2, v3, v4, v5, v6] (.ref a :: st) h Q = mr_gf (h.1 a) 11 8 (fun v => mr_wp 155 37 [v0, v1, v2, v3, v4, v5, v6] (v :: st) h Q)) ∧
    (∀ (v0 v1 v2 v3 v4 v5 v6 : Value) (x : Int32) (y : Int32) (st : List Value) (h : mr_h) (Q : Option Value → mr_h → Prop), mr_wp 155 37 [v0, v1, v2, v3, v4, v5, v6] (.int y :: .int x :: st) h Q = if y ≤ x then mr_wp 155 211 [v0, v1, v2, v3, v4, v5, v6] st h Q else mr_wp 155 40 [v0, v1, v2, v3, v4, v5, v6] st h Q) ∧
    (∀ (v0 v1 v2 v3 v4 v5 v6 : Value) (st : List Value) (h : mr_h) (Q : Option Value → mr_h → Prop), mr_wp 155 40 [v0, v1, v2, v3, v4, v5, v6] st h Q = mr_wp 155 41 [v0, v1, v2, v3, v4, v5, v6] (.int (0) :: st) h Q) ∧
    (∀ (v0 v1 v2 v4 v5 v6 : Value) (w3 : Int32) (x : Int32) (st : List Value) (h : mr_h) (Q : Option Value → mr_h → Prop), mr_wp 155 41 [v0, v1, v2, .int w3, v4, v5, v6] (.int x :: st) h Q = mr_wp 155 43 [v0, v1, v2, .int w3, .int x, v5, v6] st h Q) ∧
    (∀ (v1 v2 v3 v4 v5 v6 : Value) (x : Nat) (st : List Value) (h : mr_h) (Q : Option Value → mr_h → Prop), mr_wp 155 45 [.ref x, v1, v2, v3, v4, v5, v6] st h Q = mr_wp 155 46 [.ref x, v1, v2, v3, v4, v5, v6] (.ref x :: st) h Q) ∧
    (∀ (v0 v1 v2 v3 v4 v5 v6 : Value) (a : Nat) (st : List Value) (h : mr_h) (Q : Option Value → mr_h → Prop), mr_wp 155 46 [v0, v1, v2, v3, v4, v5, v6] (.ref a :: st) h Q = mr_gf (h.1 a) 11 8 (fun v => mr_wp 155 49 [v0, v1, v2, v3, v4, v5, v6] (v :: st) h Q)) ∧
    (∀ (v0 v1 v2 v3 v4 v5 v6 : Value) (x : Int32) (y : Int32) (st : List Value) (h : mr_h) (Q : Option Value → mr_h → Prop), mr_wp 155 49 [v0, v1, v2, v3, v4, v5, v6] (.int y :: .int x :: st) h Q = if y ≤ x then mr_wp 155 205 [v0, v1, v2, v3, v4, v5, v6] st h Q else mr_wp 155 52 [v0, v1, v2, v3, v4, v5, v6] st h Q) ∧
    (∀ (v0 v1 v2 v3 v4 v5 v6 : Value) (st : List Value) (h : mr_h) (Q : Option Value → mr_h → Prop), mr_wp 155 52 [v0, v1, v2, v3, v4, v5, v6] st h Q = mr_wp 155 53 [v0, v1, v2, v3, v4, v5, v6] (.int (0) :: st) h Q) ∧
    (∀ (v0 v1 v2 v3 v5 v6 : Value) (w4 : Int32) (x : Int32) (st : List Value) (h : mr_h) (Q : Option Value → mr_h → Prop), mr_wp 155 53 [v0, v1, v2, v3, .int w4, v5, v6] (.int x :: st) h Q = mr_wp 155 55 [v0, v1, v2, v3, .int w4, .int x, v6] st h Q) ∧
    (∀ (v1 v2 v3 v4 v5 v6 : Value) (x : Nat) (st : List Value) (h : mr_h) (Q : Option Value → mr_h → Prop), mr_wp 155 57 [.ref x, v1, v2, v3, v4, v5, v6] st h Q = mr_wp 155 58 [.ref x, v1, v2, v3, v4, v5, v6] (.ref x :: st) h Q) ∧
    (∀ (v0 v1 v2 v3 v4 v5 v6 : Value) (a : Nat) (st : List Value) (h : mr_h) (Q : Option Value → mr_h → Prop), mr_wp 155 58 [v0, v1, v2, v3, v4, v5, v6] (.ref a :: st) h Q = mr_gf (h.1 a) 11 8 (fun v => mr_wp 155 61 [v0, v1, v2, v3, v4, v5, v6] (v :: st) h Q)) ∧
    (∀ (v0 v1 v2 v3 v4 v5 v6 : Value) (x : Int32) (y : Int32) (st : List Value) (h : mr_h) (Q : Option Value → mr_h → Prop), mr_wp 155 61 [v0, v1, v2, v3, v4, v5, v6] (.int y :: .int x :: st) h Q = if y ≤ x then mr_wp 155 167 [v0, v1, v2, v3, v4, v5, v6] st h Q else mr_wp 155 64 [v0, v1, v2, v3, v4, v5, v6] st h Q) ∧
    (∀ (v0 v2 v3 v4 v5 v6 : Value) (x : Int32) (st : List Value) (h : mr_h) (Q : Option Value → mr_h → Prop), mr_wp 155 64 [v0, .int x, v2, v3, v4, v5, v6] st h Q = mr_wp 155 65 [v0, .int x, v2, v3, v4, v5, v6] (.int x :: st) h Q) ∧
    (∀ (v0 v1 v2 v3 v5 v6 : Value) (x : Int32) (st : List Value) (h : mr_h) (Q : Option Value → mr_h → Prop), mr_wp 155 65 [v0, v1, v2, v3, .int x, v5, v6] st h Q = mr_wp 155 67 [v0, v1, v2, v3, .int x, v5, v6] (.int x :: st) h Q) ∧
    (∀ (v0 v1 v2 v3 v4 v5 v6 : Value) (a0 : Int32) (a1 : Int32) (h : mr_h) (Q : Option Value → mr_h → Prop), mr_wp 155 67 [v0, v1, v2, v3, v4, v5, v6] [.int a1, .int a0] h Q = mr_run 130 [.int a0, .int a1] h (fun v h' => mr_wp 155 70 [v0, v1, v2, v3, v4, v5, v6] (v.toList ++ []) h' Q)) ∧
    (∀ (v0 v1 v2 v3 v4 v5 v6 : Value) (x : Int32) (st : List Value) (h : mr_h) (Q : Option Value → mr_h → Prop), mr_wp 155 70 [v0, v1, v2, v3, v4, v5, v6] (.int x :: st) h Q = if x = 0 then mr_wp 155 108 [v0, v1, v2, v3, v4, v5, v6] st h Q else mr_wp 155 73 [v0, v1, v2, v3, v4, v5, v6] st h Q) ∧
    (∀ (v0 v2 v3 v4 v5 v6 : Value) (x : Int32) (st : List Value) (h : mr_h) (Q : Option Value → mr_h → Prop), mr_wp 155 73 [v0, .int x, v2, v3, v4, v5, v6] st h Q = mr_wp 155 74 [v0, .int x, v2, v3, v4, v5, v6] (.int x :: st) h Q) ∧
    (∀ (v0 v1 v2 v3 v4 v6 : Value) (x : Int32) (st : List Value) (h : mr_h) (Q : Option Value → mr_h → Prop), mr_wp 155 74 [v0, v1, v2, v3, v4, .int x, v6] st h Q = mr_wp 155 76 [v0, v1, v2, v3, v4, .int x, v6] (.int x :: st) h Q) ∧
    (∀ (v0 v1 v2 v3 v4 v5 v6 : Value) (a0 : Int32) (a1 : Int32) (h : mr_h) (Q : Option Value → mr_h → Prop), mr_wp 155 76 [v0, v1, v2, v3, v4, v5, v6] [.int a1, .int a0] h Q = mr_run 130 [.int a0, .int a1] h (fun v h' => mr_wp 155 79 [v0, v1, v2, v3, v4, v5, v6] (v.toList ++ []) h' Q)) ∧
    (∀ (v0 v1 v2 v3 v4 v5 v6 : Value) (x : Int32) (st : List Value) (h : mr_h) (Q : Option Value → mr_h → Prop), mr_wp 155 79 [v0, v1, v2, v3, v4, v5, v6] (.int x :: st) h Q = if x = 0 then mr_wp 155 108 [v0, v1, v2, v3, v4, v5, v6] st h Q else mr_wp 155 82 [v0, v1, v2, v3, v4, v5, v6] st h Q) :=
  ⟨fun v1 v2 v3 v4 v5 v6 x st h Q => gx_one (i := .aload_n 0) (len := 1) (by decide +kernel) rfl,
   fun v0 v1 v2 v3 v4 v5 v6 o h Q => gx_virt (x := 162) (n := 0) (by decide +kernel) (by decide +kernel) rfl (Or.inl (Nat.le_of_ble_eq_true rfl)) (by show _ ≤ mr_mxl 138; rw [show mr_mxl 138 = 3 from by decide +kernel]; exact Nat.le_of_ble_eq_true rfl) (by decide +kernel),
   fun v1 v2 v3 v4 v5 v6 w0 x st h Q => gx_one (i := .istore_n 1) (len := 1) (by decide +kernel) rfl,
   fun v0 v1 v2 v3 v4 v5 v6 st h Q => gx_one (i := .iconst 0) (len := 1) (by decide +kernel) rfl,
   fun v0 v2 v3 v4 v5 v6 w1 x st h Q => gx_one (i := .istore_n 2) (len := 1) (by decide +kernel) rfl,
   fun v0 v1 v2 v3 v4 v5 v6 st h Q => gx_one (i := .iconst 0) (len := 1) (by decide +kernel) rfl,
   fun v0 v1 v3 v4 v5 v6 w2 x st h Q => gx_one (i := .istore_n 3) (len := 1) (by decide +kernel) rfl,
   fun v1 v2 v3 v4 v5 v6 x st h Q => gx_one (i := .aload_n 0) (len := 1) (by decide +kernel) rfl,
   fun v0 v1 v2 v3 v4 v5 v6 a st h Q => gx_get (x := 123) (by decide +kernel) (by decide +kernel),
   fun v0 v1 v2 v3 v4 v5 v6 x y st h Q => gx_br (i := .if_icmp .ge 16) (len := 3) (c := .ge) (by decide +kernel) rfl rfl,
   fun v1 v2 v3 v4 v5 v6 x st h Q => gx_one (i := .aload_n 0) (len := 1) (by decide +kernel) rfl,
   fun v0 v1 v2 v3 v4 v5 v6 a st h Q => gx_get (x := 47) (by decide +kernel) (by decide +kernel),
   fun v0 v1 v2 v4 v5 v6 x st h Q => gx_one (i := .iload_n 3) (len := 1) (by decide +kernel) rfl,
   fun v0 v1 v2 v3 v4 v5 v6 st h Q => gx_one (i := .iconst 1) (len := 1) (by decide +kernel) rfl,
   fun v0 v1 v2 v3 v4 v5 v6 a x y st h Q => gx_iast (by decide +kernel),
   fun v0 v1 v4 v5 v6 x w2 st h Q => gx_one (i := .iinc 3 1) (len := 3) (by decide +kernel) rfl,
   fun v0 v1 v2 v3 v4 v5 v6 st h Q => gx_one (i := .goto (-18)) (len := 3) (by decide +kernel) rfl,
   fun v0 v1 v2 v3 v4 v5 v6 st h Q => gx_one (i := .iconst 0) (len := 1) (by decide +kernel) rfl,
   fun v0 v1 v3 v4 v5 v6 w2 x st h Q => gx_one (i := .istore_n 3) (len := 1) (by decide +kernel) rfl,
   fun v1 v2 v3 v4 v5 v6 x st h Q => gx_one (i := .aload_n 0) (len := 1) (by decide +kernel) rfl,
   fun v0 v1 v2 v3 v4 v5 v6 a st h Q => gx_get (x := 123) (by decide +kernel) (by decide +kernel),
   fun v0 v1 v2 v3 v4 v5 v6 x y st h Q => gx_br (i := .if_icmp .ge 174) (len := 3) (c := .ge) (by decide +kernel) rfl rfl,
   fun v0 v1 v2 v3 v4 v5 v6 st h Q => gx_one (i := .iconst 0) (len := 1) (by decide +kernel) rfl,
   fun v0 v1 v2 v4 v5 v6 w3 x st h Q => gx_one (i := .istore 4) (len := 2) (by decide +kernel) rfl,
   fun v1 v2 v3 v4 v5 v6 x st h Q => gx_one (i := .aload_n 0) (len := 1) (by decide +kernel) rfl,
   fun v0 v1 v2 v3 v4 v5 v6 a st h Q => gx_get (x := 123) (by decide +kernel) (by decide +kernel),
   fun v0 v1 v2 v3 v4 v5 v6 x y st h Q => gx_br (i := .if_icmp .ge 156) (len := 3) (c := .ge) (by decide +kernel) rfl rfl,
   fun v0 v1 v2 v3 v4 v5 v6 st h Q => gx_one (i := .iconst 0) (len := 1) (by decide +kernel) rfl,
   fun v0 v1 v2 v3 v5 v6 w4 x st h Q => gx_one (i := .istore 5) (len := 2) (by decide +kernel) rfl,
   fun v1 v2 v3 v4 v5 v6 x st h Q => gx_one (i := .aload_n 0) (len := 1) (by decide +kernel) rfl,
   fun v0 v1 v2 v3 v4 v5 v6 a st h Q => gx_get (x := 123) (by decide +kernel) (by decide +kernel),
   fun v0 v1 v2 v3 v4 v5 v6 x y st h Q => gx_br (i := .if_icmp .ge 106) (len := 3) (c := .ge) (by decide +kernel) rfl rfl,
   fun v0 v2 v3 v4 v5 v6 x st h Q => gx_one (i := .iload_n 1) (len := 1) (by decide +kernel) rfl,
   fun v0 v1 v2 v3 v5 v6 x st h Q => gx_one (i := .iload 4) (len := 2) (by decide +kernel) rfl,
   fun v0 v1 v2 v3 v4 v5 v6 a0 a1 h Q => gx_stat (x := 116) (t := 130) (n := 2) (by decide +kernel) (by decide +kernel) (by decide) (by decide +kernel) rfl (Or.inl (Nat.le_of_ble_eq_true rfl)) (by show _ ≤ mr_mxl 130; rw [show mr_mxl 130 = 2 from by decide +kernel]; exact Nat.le_of_ble_eq_true rfl),
   fun v0 v1 v2 v3 v4 v5 v6 x st h Q => gx_br (i := .ifCond .eq 38) (len := 3) (c := .eq) (by decide +kernel) rfl rfl,
   fun v0 v2 v3 v4 v5 v6 x st h Q => gx_one (i := .iload_n 1) (len := 1) (by decide +kernel) rfl,
   fun v0 v1 v2 v3 v4 v6 x st h Q => gx_one (i := .iload 5) (len := 2) (by decide +kernel) rfl,
   fun v0 v1 v2 v3 v4 v5 v6 a0 a1 h Q => gx_stat (x := 116) (t := 130) (n := 2) (by decide +kernel) (by decide +kernel) (by decide) (by decide +kernel) rfl (Or.inl (Nat.le_of_ble_eq_true rfl)) (by show _ ≤ mr_mxl 130; rw [show mr_mxl 130 = 2 from by decide +kernel]; exact Nat.le_of_ble_eq_true rfl),
   fun v0 v1 v2 v3 v4 v5 v6 x st h Q => gx_br (i := .ifCond .eq 29) (len := 3) (c := .eq) (by decide +kernel) rfl rfl⟩
theorem S_mo_chain_1 : (∀ (v0 v1 v2 v3 v5 v6 : Value) (x : Int32) (st : List Value) (h : mr_h) (Q : Option Value → mr_h → Prop), mr_wp 155 82 [v0, v1, v2, v3, .int x, v5, v6] st h Q = mr_wp 155 84 [v0, v1, v2, v3, .int x, v5, v6] (.int x :: st) h Q) ∧
    (∀ (v0 v1 v2 v3 v4 v6 : Value) (x : Int32) (st : List Value) (h : mr_h) (Q : Option Value → mr_h → Prop), mr_wp 155 84 [v0, v1, v2, v3, v4, .int x, v6] st h Q = mr_wp 155 86 [v0, v1, v2, v3, v4, .int x, v6] (.int x :: st) h Q) ∧
    (∀ (v0 v1 v2 v3 v4 v5 v6 : Value) (x : Int32) (y : Int32) (st : List Value) (h : mr_h) (Q : Option Value → mr_h → Prop), mr_wp 155 86 [v0, v1, v2, v3, v4, v5, v6] (.int y :: .int x :: st) h Q = if x = y then mr_wp 155 108 [v0, v1, v2, v3, v4, v5, v6] st h Q else mr_wp 155 89 [v0, v1, v2, v3, v4, v5, v6] st h Q) ∧
    (∀ (v1 v2 v3 v4 v5 v6 : Value) (x : Nat) (st : List Value) (h : mr_h) (Q : Option Value → mr_h → Prop), mr_wp 155 89 [.ref x, v1, v2, v3, v4, v5, v6] st h Q = mr_wp 155 90 [.ref x, v1, v2, v3, v4, v5, v6] (.ref x :: st) h Q) ∧
    (∀ (v0 v1 v2 v3 v4 v5 v6 : Value) (a : Nat) (st : List Value) (h : mr_h) (Q : Option Value → mr_h → Prop), mr_wp 155 90 [v0, v1, v2, v3, v4, v5, v6] (.ref a :: st) h Q = mr_gf (h.1 a) 11 22 (fun v => mr_wp 155 93 [v0, v1, v2, v3, v4, v5, v6] (v :: st) h Q)) ∧
    (∀ (v0 v1 v2 v3 v5 v6 : Value) (x : Int32) (st : List Value) (h : mr_h) (Q : Option Value → mr_h → Prop), mr_wp 155 93 [v0, v1, v2, v3, .int x, v5, v6] st h Q = mr_wp 155 95 [v0, v1, v2, v3, .int x, v5, v6] (.int x :: st) h Q) ∧
    (∀ (v0 v1 v2 v3 v4 v5 v6 : Value) (a : Nat) (x : Int32) (st : List Value) (h : mr_h) (Q : Option Value → mr_h → Prop), mr_wp 155 95 [v0, v1, v2, v3, v4, v5, v6] (.int x :: .ref a :: st) h Q = mr_ai (h.1 a) x (fun v => mr_wp 155 96 [v0, v1, v2, v3, v4, v5, v6] (.int v :: st) h Q)) ∧
    (∀ (v0 v1 v2 v3 v4 v6 : Value) (x : Int32) (st : List Value) (h : mr_h) (Q : Option Value → mr_h → Prop), mr_wp 155 96 [v0, v1, v2, v3, v4, .int x, v6] st h Q = mr_wp 155 98 [v0, v1, v2, v3, v4, .int x, v6] (.int x :: st) h Q) ∧
    (∀ (v0 v1 v2 v3 v4 v5 v6 : Value) (a0 : Int32) (a1 : Int32) (h : mr_h) (Q : Option Value → mr_h → Prop), mr_wp 155 98 [v0, v1, v2, v3, v4, v5, v6] [.int a1, .int a0] h Q = mr_run 130 [.int a0, .int a1] h (fun v h' => mr_wp 155 101 [v0, v1, v2, v3, v4, v5, v6] (v.toList ++ []) h' Q)) ∧
    (∀ (v0 v1 v2 v3 v4 v5 v6 : Value) (x : Int32) (st : List Value) (h : mr_h) (Q : Option Value → mr_h → Prop), mr_wp 155 101 [v0, v1, v2, v3, v4, v5, v6] (.int x :: st) h Q = if x = 0 then mr_wp 155 108 [v0, v1, v2, v3, v4, v5, v6] st h Q else mr_wp 155 104 [v0, v1, v2, v3, v4, v5, v6] st h Q) ∧
    (∀ (v0 v1 v2 v3 v4 v5 v6 : Value) (st : List Value) (h : mr_h) (Q : Option Value → mr_h → Prop), mr_wp 155 104 [v0, v1, v2, v3, v4, v5, v6] st h Q = mr_wp 155 105 [v0, v1, v2, v3, v4, v5, v6] (.int (1) :: st) h Q) ∧
    (∀ (v0 v1 v2 v3 v4 v5 v6 : Value) (st : List Value) (h : mr_h) (Q : Option Value → mr_h → Prop), mr_wp 155 105 [v0, v1, v2, v3, v4, v5, v6] st h Q = mr_wp 155 109 [v0, v1, v2, v3, v4, v5, v6] st h Q) ∧
    (∀ (v0 v1 v2 v3 v4 v5 v6 : Value) (st : List Value) (h : mr_h) (Q : Option Value → mr_h → Prop), mr_wp 155 108 [v0, v1, v2, v3, v4, v5, v6] st h Q = mr_wp 155 109 [v0, v1, v2, v3, v4, v5, v6] (.int (0) :: st) h Q) ∧
    (∀ (v0 v1 v2 v3 v4 v6 : Value) (w5 : Int32) (x : Int32) (st : List Value) (h : mr_h) (Q : Option Value → mr_h → Prop), mr_wp 155 109 [v0, v1, v2, v3, v4, .int w5, v6] (.int x :: st) h Q = mr_wp 155 111 [v0, v1, v2, v3, v4, .int w5, .int x] st h Q) ∧
    (∀ (v1 v2 v3 v4 v5 v6 : Value) (x : Nat) (st : List Value) (h : mr_h) (Q : Option Value → mr_h → Prop), mr_wp 155 111 [.ref x, v1, v2, v3, v4, v5, v6] st h Q = mr_wp 155 112 [.ref x, v1, v2, v3, v4, v5, v6] (.ref x :: st) h Q) ∧
    (∀ (v0 v1 v2 v3 v4 v5 v6 : Value) (a : Nat) (st : List Value) (h : mr_h) (Q : Option Value → mr_h → Prop), mr_wp 155 112 [v0, v1, v2, v3, v4, v5, v6] (.ref a :: st) h Q = mr_gf (h.1 a) 11 24 (fun v => mr_wp 155 115 [v0, v1, v2, v3, v4, v5, v6] (v :: st) h Q)) ∧
    (∀ (v0 v1 v2 v3 v5 v6 : Value) (x : Int32) (st : List Value) (h : mr_h) (Q : Option Value → mr_h → Prop), mr_wp 155 115 [v0, v1, v2, v3, .int x, v5, v6] st h Q = mr_wp 155 117 [v0, v1, v2, v3, .int x, v5, v6] (.int x :: st) h Q) ∧
    (∀ (v0 v1 v2 v3 v4 v5 : Value) (x : Int32) (st : List Value) (h : mr_h) (Q : Option Value → mr_h → Prop), mr_wp 155 117 [v0, v1, v2, v3, v4, v5, .int x] st h Q = mr_wp 155 119 [v0, v1, v2, v3, v4, v5, .int x] (.int x :: st) h Q) ∧
    (∀ (v0 v1 v2 v3 v4 v5 v6 : Value) (x : Int32) (st : List Value) (h : mr_h) (Q : Option Value → mr_h → Prop), mr_wp 155 119 [v0, v1, v2, v3, v4, v5, v6] (.int x :: st) h Q = if x = 0 then mr_wp 155 153 [v0, v1, v2, v3, v4, v5, v6] st h Q else mr_wp 155 122 [v0, v1, v2, v3, v4, v5, v6] st h Q) ∧
    (∀ (v1 v2 v3 v4 v5 v6 : Value) (x : Nat) (st : List Value) (h : mr_h) (Q : Option Value → mr_h → Prop), mr_wp 155 122 [.ref x, v1, v2, v3, v4, v5, v6] st h Q = mr_wp 155 123 [.ref x, v1, v2, v3, v4, v5, v6] (.ref x :: st) h Q) ∧
    (∀ (v0 v1 v2 v3 v4 v5 v6 : Value) (a : Nat) (st : List Value) (h : mr_h) (Q : Option Value → mr_h → Prop), mr_wp 155 123 [v0, v1, v2, v3, v4, v5, v6] (.ref a :: st) h Q = mr_gf (h.1 a) 11 24 (fun v => mr_wp 155 126 [v0, v1, v2, v3, v4, v5, v6] (v :: st) h Q)) ∧
    (∀ (v0 v1 v2 v3 v4 v6 : Value) (x : Int32) (st : List Value) (h : mr_h) (Q : Option Value → mr_h → Prop), mr_wp 155 126 [v0, v1, v2, v3, v4, .int x, v6] st h Q = mr_wp 155 128 [v0, v1, v2, v3, v4, .int x, v6] (.int x :: st) h Q) ∧
    (∀ (v0 v1 v2 v3 v4 v5 v6 : Value) (a : Nat) (x : Int32) (st : List Value) (h : mr_h) (Q : Option Value → mr_h → Prop), mr_wp 155 128 [v0, v1, v2, v3, v4, v5, v6] (.int x :: .ref a :: st) h Q = mr_ai (h.1 a) x (fun v => mr_wp 155 129 [v0, v1, v2, v3, v4, v5, v6] (.int v :: st) h Q)) ∧
    (∀ (v0 v1 v2 v3 v4 v5 v6 : Value) (st : List Value) (h : mr_h) (Q : Option Value → mr_h → Prop), mr_wp 155 129 [v0, v1, v2, v3, v4, v5, v6] st h Q = mr_wp 155 130 [v0, v1, v2, v3, v4, v5, v6] (.int (1) :: st) h Q) ∧
    (∀ (v0 v1 v2 v3 v4 v5 v6 : Value) (x : Int32) (y : Int32) (st : List Value) (h : mr_h) (Q : Option Value → mr_h → Prop), mr_wp 155 130 [v0, v1, v2, v3, v4, v5, v6] (.int y :: .int x :: st) h Q = mr_wp 155 131 [v0, v1, v2, v3, v4, v5, v6] (.int (x + y) :: st) h Q) ∧
    (∀ (v1 v2 v3 v4 v5 v6 : Value) (x : Nat) (st : List Value) (h : mr_h) (Q : Option Value → mr_h → Prop), mr_wp 155 131 [.ref x, v1, v2, v3, v4, v5, v6] st h Q = mr_wp 155 132 [.ref x, v1, v2, v3, v4, v5, v6] (.ref x :: st) h Q) ∧
    (∀ (v0 v1 v2 v3 v4 v5 v6 : Value) (a : Nat) (st : List Value) (h : mr_h) (Q : Option Value → mr_h → Prop), mr_wp 155 132 [v0, v1, v2, v3, v4, v5, v6] (.ref a :: st) h Q = mr_gf (h.1 a) 11 24 (fun v => mr_wp 155 135 [v0, v1, v2, v3, v4, v5, v6] (v :: st) h Q)) ∧
    (∀ (v0 v1 v2 v3 v5 v6 : Value) (x : Int32) (st : List Value) (h : mr_h) (Q : Option Value → mr_h → Prop), mr_wp 155 135 [v0, v1, v2, v3, .int x, v5, v6] st h Q = mr_wp 155 137 [v0, v1, v2, v3, .int x, v5, v6] (.int x :: st) h Q) ∧
    (∀ (v0 v1 v2 v3 v4 v5 v6 : Value) (a : Nat) (x : Int32) (st : List Value) (h : mr_h) (Q : Option Value → mr_h → Prop), mr_wp 155 137 [v0, v1, v2, v3, v4, v5, v6] (.int x :: .ref a :: st) h Q = mr_ai (h.1 a) x (fun v => mr_wp 155 138 [v0, v1, v2, v3, v4, v5, v6] (.int v :: st) h Q)) ∧
    (∀ (v0 v1 v2 v3 v4 v5 v6 : Value) (x : Int32) (y : Int32) (st : List Value) (h : mr_h) (Q : Option Value → mr_h → Prop), mr_wp 155 138 [v0, v1, v2, v3, v4, v5, v6] (.int y :: .int x :: st) h Q = if x ≤ y then mr_wp 155 153 [v0, v1, v2, v3, v4, v5, v6] st h Q else mr_wp 155 141 [v0, v1, v2, v3, v4, v5, v6] st h Q) ∧
    (∀ (v1 v2 v3 v4 v5 v6 : Value) (x : Nat) (st : List Value) (h : mr_h) (Q : Option Value → mr_h → Prop), mr_wp 155 141 [.ref x, v1, v2, v3, v4, v5, v6] st h Q = mr_wp 155 142 [.ref x, v1, v2, v3, v4, v5, v6] (.ref x :: st) h Q) ∧
    (∀ (v0 v1 v2 v3 v4 v5 v6 : Value) (a : Nat) (st : List Value) (h : mr_h) (Q : Option Value → mr_h → Prop), mr_wp 155 142 [v0, v1, v2, v3, v4, v5, v6] (.ref a :: st) h Q = mr_gf (h.1 a) 11 24 (fun v => mr_wp 155 145 [v0, v1, v2, v3, v4, v5, v6] (v :: st) h Q)) ∧
    (∀ (v0 v1 v2 v3 v4 v6 : Value) (x : Int32) (st : List Value) (h : mr_h) (Q : Option Value → mr_h → Prop), mr_wp 155 145 [v0, v1, v2, v3, v4, .int x, v6] st h Q = mr_wp 155 147 [v0, v1, v2, v3, v4, .int x, v6] (.int x :: st) h Q) ∧
    (∀ (v0 v1 v2 v3 v4 v5 v6 : Value) (a : Nat) (x : Int32) (st : List Value) (h : mr_h) (Q : Option Value → mr_h → Prop), mr_wp 155 147 [v0, v1, v2, v3, v4, v5, v6] (.int x :: .ref a :: st) h Q = mr_ai (h.1 a) x (fun v => mr_wp 155 148 [v0, v1, v2, v3, v4, v5, v6] (.int v :: st) h Q)) ∧
    (∀ (v0 v1 v2 v3 v4 v5 v6 : Value) (st : List Value) (h : mr_h) (Q : Option Value → mr_h → Prop), mr_wp 155 148 [v0, v1, v2, v3, v4, v5, v6] st h Q = mr_wp 155 149 [v0, v1, v2, v3, v4, v5, v6] (.int (1) :: st) h Q) ∧
    (∀ (v0 v1 v2 v3 v4 v5 v6 : Value) (x : Int32) (y : Int32) (st : List Value) (h : mr_h) (Q : Option Value → mr_h → Prop), mr_wp 155 149 [v0, v1, v2, v3, v4, v5, v6] (.int y :: .int x :: st) h Q = mr_wp 155 150 [v0, v1, v2, v3, v4, v5, v6] (.int (x + y) :: st) h Q) ∧
    (∀ (v0 v1 v2 v3 v4 v5 v6 : Value) (st : List Value) (h : mr_h) (Q : Option Value → mr_h → Prop), mr_wp 155 150 [v0, v1, v2, v3, v4, v5, v6] st h Q = mr_wp 155 160 [v0, v1, v2, v3, v4, v5, v6] st h Q) ∧
    (∀ (v1 v2 v3 v4 v5 v6 : Value) (x : Nat) (st : List Value) (h : mr_h) (Q : Option Value → mr_h → Prop), mr_wp 155 153 [.ref x, v1, v2, v3, v4, v5, v6] st h Q = mr_wp 155 154 [.ref x, v1, v2, v3, v4, v5, v6] (.ref x :: st) h Q) ∧
    (∀ (v0 v1 v2 v3 v4 v5 v6 : Value) (a : Nat) (st : List Value) (h : mr_h) (Q : Option Value → mr_h → Prop), mr_wp 155 154 [v0, v1, v2, v3, v4, v5, v6] (.ref a :: st) h Q = mr_gf (h.1 a) 11 24 (fun v => mr_wp 155 157 [v0, v1, v2, v3, v4, v5, v6] (v :: st) h Q)) ∧
    (∀ (v0 v1 v2 v3 v5 v6 : Value) (x : Int32) (st : List Value) (h : mr_h) (Q : Option Value → mr_h → Prop), mr_wp 155 157 [v0, v1, v2, v3, .int x, v5, v6] st h Q = mr_wp 155 159 [v0, v1, v2, v3, .int x, v5, v6] (.int x :: st) h Q) :=
  ⟨fun v0 v1 v2 v3 v5 v6 x st h Q => gx_one (i := .iload 4) (len := 2) (by decide +kernel) rfl,
   fun v0 v1 v2 v3 v4 v6 x st h Q => gx_one (i := .iload 5) (len := 2) (by decide +kernel) rfl,
   fun v0 v1 v2 v3 v4 v5 v6 x y st h Q => gx_br (i := .if_icmp .eq 22) (len := 3) (c := .eq) (by decide +kernel) rfl rfl,
   fun v1 v2 v3 v4 v5 v6 x st h Q => gx_one (i := .aload_n 0) (len := 1) (by decide +kernel) rfl,
   fun v0 v1 v2 v3 v4 v5 v6 a st h Q => gx_get (x := 41) (by decide +kernel) (by decide +kernel),
   fun v0 v1 v2 v3 v5 v6 x st h Q => gx_one (i := .iload 4) (len := 2) (by decide +kernel) rfl,
   fun v0 v1 v2 v3 v4 v5 v6 a x st h Q => gx_iald (by decide +kernel),
   fun v0 v1 v2 v3 v4 v6 x st h Q => gx_one (i := .iload 5) (len := 2) (by decide +kernel) rfl,
   fun v0 v1 v2 v3 v4 v5 v6 a0 a1 h Q => gx_stat (x := 116) (t := 130) (n := 2) (by decide +kernel) (by decide +kernel) (by decide) (by decide +kernel) rfl (Or.inl (Nat.le_of_ble_eq_true rfl)) (by show _ ≤ mr_mxl 130; rw [show mr_mxl 130 = 2 from by decide +kernel]; exact Nat.le_of_ble_eq_true rfl),
   fun v0 v1 v2 v3 v4 v5 v6 x st h Q => gx_br (i := .ifCond .eq 7) (len := 3) (c := .eq) (by decide +kernel) rfl rfl,
   fun v0 v1 v2 v3 v4 v5 v6 st h Q => gx_one (i := .iconst 1) (len := 1) (by decide +kernel) rfl,
   fun v0 v1 v2 v3 v4 v5 v6 st h Q => gx_one (i := .goto 4) (len := 3) (by decide +kernel) rfl,
   fun v0 v1 v2 v3 v4 v5 v6 st h Q => gx_one (i := .iconst 0) (len := 1) (by decide +kernel) rfl,
   fun v0 v1 v2 v3 v4 v6 w5 x st h Q => gx_one (i := .istore 6) (len := 2) (by decide +kernel) rfl,
   fun v1 v2 v3 v4 v5 v6 x st h Q => gx_one (i := .aload_n 0) (len := 1) (by decide +kernel) rfl,
   fun v0 v1 v2 v3 v4 v5 v6 a st h Q => gx_get (x := 47) (by decide +kernel) (by decide +kernel),
   fun v0 v1 v2 v3 v5 v6 x st h Q => gx_one (i := .iload 4) (len := 2) (by decide +kernel) rfl,
   fun v0 v1 v2 v3 v4 v5 x st h Q => gx_one (i := .iload 6) (len := 2) (by decide +kernel) rfl,
   fun v0 v1 v2 v3 v4 v5 v6 x st h Q => gx_br (i := .ifCond .eq 34) (len := 3) (c := .eq) (by decide +kernel) rfl rfl,
   fun v1 v2 v3 v4 v5 v6 x st h Q => gx_one (i := .aload_n 0) (len := 1) (by decide +kernel) rfl,
   fun v0 v1 v2 v3 v4 v5 v6 a st h Q => gx_get (x := 47) (by decide +kernel) (by decide +kernel),
   fun v0 v1 v2 v3 v4 v6 x st h Q => gx_one (i := .iload 5) (len := 2) (by decide +kernel) rfl,
   fun v0 v1 v2 v3 v4 v5 v6 a x st h Q => gx_iald (by decide +kernel),
   fun v0 v1 v2 v3 v4 v5 v6 st h Q => gx_one (i := .iconst 1) (len := 1) (by decide +kernel) rfl,
   fun v0 v1 v2 v3 v4 v5 v6 x y st h Q => gx_one (i := .iadd) (len := 1) (by decide +kernel) rfl,
   fun v1 v2 v3 v4 v5 v6 x st h Q => gx_one (i := .aload_n 0) (len := 1) (by decide +kernel) rfl,
   fun v0 v1 v2 v3 v4 v5 v6 a st h Q => gx_get (x := 47) (by decide +kernel) (by decide +kernel),
   fun v0 v1 v2 v3 v5 v6 x st h Q => gx_one (i := .iload 4) (len := 2) (by decide +kernel) rfl,
   fun v0 v1 v2 v3 v4 v5 v6 a x st h Q => gx_iald (by decide +kernel),
   fun v0 v1 v2 v3 v4 v5 v6 x y st h Q => gx_br (i := .if_icmp .le 15) (len := 3) (c := .le) (by decide +kernel) rfl rfl,
   fun v1 v2 v3 v4 v5 v6 x st h Q => gx_one (i := .aload_n 0) (len := 1) (by decide +kernel) rfl,
   fun v0 v1 v2 v3 v4 v5 v6 a st h Q => gx_get (x := 47) (by decide +kernel) (by decide +kernel),
   fun v0 v1 v2 v3 v4 v6 x st h Q => gx_one (i := .iload 5) (len := 2) (by decide +kernel) rfl,
   fun v0 v1 v2 v3 v4 v5 v6 a x st h Q => gx_iald (by decide +kernel),
   fun v0 v1 v2 v3 v4 v5 v6 st h Q => gx_one (i := .iconst 1) (len := 1) (by decide +kernel) rfl,
   fun v0 v1 v2 v3 v4 v5 v6 x y st h Q => gx_one (i := .iadd) (len := 1) (by decide +kernel) rfl,
   fun v0 v1 v2 v3 v4 v5 v6 st h Q => gx_one (i := .goto 10) (len := 3) (by decide +kernel) rfl,
   fun v1 v2 v3 v4 v5 v6 x st h Q => gx_one (i := .aload_n 0) (len := 1) (by decide +kernel) rfl,
   fun v0 v1 v2 v3 v4 v5 v6 a st h Q => gx_get (x := 47) (by decide +kernel) (by decide +kernel),
   fun v0 v1 v2 v3 v5 v6 x st h Q => gx_one (i := .iload 4) (len := 2) (by decide +kernel) rfl⟩
theorem S_mo_chain_2 : (∀ (v0 v1 v2 v3 v4 v5 v6 : Value) (a : Nat) (x : Int32) (st : List Value) (h : mr_h) (Q : Option Value → mr_h → Prop), mr_wp 155 159 [v0, v1, v2, v3, v4, v5, v6] (.int x :: .ref a :: st) h Q = mr_ai (h.1 a) x (fun v => mr_wp 155 160 [v0, v1, v2, v3, v4, v5, v6] (.int v :: st) h Q)) ∧
    (∀ (v0 v1 v2 v3 v4 v5 v6 : Value) (a : Nat) (x : Int32) (y : Int32) (st : List Value) (h : mr_h) (Q : Option Value → mr_h → Prop), mr_wp 155 160 [v0, v1, v2, v3, v4, v5, v6] (.int y :: .int x :: .ref a :: st) h Q = mr_si (h.1 a) x y (fun c => mr_wp 155 161 [v0, v1, v2, v3, v4, v5, v6] st (mr_up h a c) Q)) ∧
    (∀ (v0 v1 v2 v3 v6 : Value) (x : Int32) (w4 : Int32) (st : List Value) (h : mr_h) (Q : Option Value → mr_h → Prop), mr_wp 155 161 [v0, v1, v2, v3, .int w4, .int x, v6] st h Q = mr_wp 155 164 [v0, v1, v2, v3, .int w4, .int (x + (1)), v6] st h Q) ∧
    (∀ (v0 v1 v2 v3 v4 v5 v6 : Value) (st : List Value) (h : mr_h) (Q : Option Value → mr_h → Prop), mr_wp 155 164 [v0, v1, v2, v3, v4, v5, v6] st h Q = mr_wp 155 55 [v0, v1, v2, v3, v4, v5, v6] st h Q) ∧
    (∀ (v0 v2 v3 v4 v5 v6 : Value) (x : Int32) (st : List Value) (h : mr_h) (Q : Option Value → mr_h → Prop), mr_wp 155 167 [v0, .int x, v2, v3, v4, v5, v6] st h Q = mr_wp 155 168 [v0, .int x, v2, v3, v4, v5, v6] (.int x :: st) h Q) ∧
    (∀ (v0 v1 v2 v3 v5 v6 : Value) (x : Int32) (st : List Value) (h : mr_h) (Q : Option Value → mr_h → Prop), mr_wp 155 168 [v0, v1, v2, v3, .int x, v5, v6] st h Q = mr_wp 155 170 [v0, v1, v2, v3, .int x, v5, v6] (.int x :: st) h Q) ∧
    (∀ (v0 v1 v2 v3 v4 v5 v6 : Value) (a0 : Int32) (a1 : Int32) (h : mr_h) (Q : Option Value → mr_h → Prop), mr_wp 155 170 [v0, v1, v2, v3, v4, v5, v6] [.int a1, .int a0] h Q = mr_run 130 [.int a0, .int a1] h (fun v h' => mr_wp 155 173 [v0, v1, v2, v3, v4, v5, v6] (v.toList ++ []) h' Q)) ∧
    (∀ (v0 v1 v2 v3 v4 v5 v6 : Value) (x : Int32) (st : List Value) (h : mr_h) (Q : Option Value → mr_h → Prop), mr_wp 155 173 [v0, v1, v2, v3, v4, v5, v6] (.int x :: st) h Q = if x = 0 then mr_wp 155 197 [v0, v1, v2, v3, v4, v5, v6] st h Q else mr_wp 155 176 [v0, v1, v2, v3, v4, v5, v6] st h Q) ∧
    (∀ (v1 v2 v3 v4 v5 v6 : Value) (x : Nat) (st : List Value) (h : mr_h) (Q : Option Value → mr_h → Prop), mr_wp 155 176 [.ref x, v1, v2, v3, v4, v5, v6] st h Q = mr_wp 155 177 [.ref x, v1, v2, v3, v4, v5, v6] (.ref x :: st) h Q) ∧
    (∀ (v0 v1 v2 v3 v4 v5 v6 : Value) (a : Nat) (st : List Value) (h : mr_h) (Q : Option Value → mr_h → Prop), mr_wp 155 177 [v0, v1, v2, v3, v4, v5, v6] (.ref a :: st) h Q = mr_gf (h.1 a) 11 24 (fun v => mr_wp 155 180 [v0, v1, v2, v3, v4, v5, v6] (v :: st) h Q)) ∧
    (∀ (v0 v1 v2 v3 v5 v6 : Value) (x : Int32) (st : List Value) (h : mr_h) (Q : Option Value → mr_h → Prop), mr_wp 155 180 [v0, v1, v2, v3, .int x, v5, v6] st h Q = mr_wp 155 182 [v0, v1, v2, v3, .int x, v5, v6] (.int x :: st) h Q) ∧
    (∀ (v0 v1 v2 v3 v4 v5 v6 : Value) (a : Nat) (x : Int32) (st : List Value) (h : mr_h) (Q : Option Value → mr_h → Prop), mr_wp 155 182 [v0, v1, v2, v3, v4, v5, v6] (.int x :: .ref a :: st) h Q = mr_ai (h.1 a) x (fun v => mr_wp 155 183 [v0, v1, v2, v3, v4, v5, v6] (.int v :: st) h Q)) ∧
    (∀ (v0 v1 v3 v4 v5 v6 : Value) (x : Int32) (st : List Value) (h : mr_h) (Q : Option Value → mr_h → Prop), mr_wp 155 183 [v0, v1, .int x, v3, v4, v5, v6] st h Q = mr_wp 155 184 [v0, v1, .int x, v3, v4, v5, v6] (.int x :: st) h Q) ∧
    (∀ (v0 v1 v2 v3 v4 v5 v6 : Value) (x : Int32) (y : Int32) (st : List Value) (h : mr_h) (Q : Option Value → mr_h → Prop), mr_wp 155 184 [v0, v1, v2, v3, v4, v5, v6] (.int y :: .int x :: st) h Q = if x ≤ y then mr_wp 155 197 [v0, v1, v2, v3, v4, v5, v6] st h Q else mr_wp 155 187 [v0, v1, v2, v3, v4, v5, v6] st h Q) ∧
    (∀ (v1 v2 v3 v4 v5 v6 : Value) (x : Nat) (st : List Value) (h : mr_h) (Q : Option Value → mr_h → Prop), mr_wp 155 187 [.ref x, v1, v2, v3, v4, v5, v6] st h Q = mr_wp 155 188 [.ref x, v1, v2, v3, v4, v5, v6] (.ref x :: st) h Q) ∧
    (∀ (v0 v1 v2 v3 v4 v5 v6 : Value) (a : Nat) (st : List Value) (h : mr_h) (Q : Option Value → mr_h → Prop), mr_wp 155 188 [v0, v1, v2, v3, v4, v5, v6] (.ref a :: st) h Q = mr_gf (h.1 a) 11 24 (fun v => mr_wp 155 191 [v0, v1, v2, v3, v4, v5, v6] (v :: st) h Q)) ∧
    (∀ (v0 v1 v2 v3 v5 v6 : Value) (x : Int32) (st : List Value) (h : mr_h) (Q : Option Value → mr_h → Prop), mr_wp 155 191 [v0, v1, v2, v3, .int x, v5, v6] st h Q = mr_wp 155 193 [v0, v1, v2, v3, .int x, v5, v6] (.int x :: st) h Q) ∧
    (∀ (v0 v1 v2 v3 v4 v5 v6 : Value) (a : Nat) (x : Int32) (st : List Value) (h : mr_h) (Q : Option Value → mr_h → Prop), mr_wp 155 193 [v0, v1, v2, v3, v4, v5, v6] (.int x :: .ref a :: st) h Q = mr_ai (h.1 a) x (fun v => mr_wp 155 194 [v0, v1, v2, v3, v4, v5, v6] (.int v :: st) h Q)) ∧
    (∀ (v0 v1 v2 v3 v4 v5 v6 : Value) (st : List Value) (h : mr_h) (Q : Option Value → mr_h → Prop), mr_wp 155 194 [v0, v1, v2, v3, v4, v5, v6] st h Q = mr_wp 155 198 [v0, v1, v2, v3, v4, v5, v6] st h Q) ∧
    (∀ (v0 v1 v3 v4 v5 v6 : Value) (x : Int32) (st : List Value) (h : mr_h) (Q : Option Value → mr_h → Prop), mr_wp 155 197 [v0, v1, .int x, v3, v4, v5, v6] st h Q = mr_wp 155 198 [v0, v1, .int x, v3, v4, v5, v6] (.int x :: st) h Q) ∧
    (∀ (v0 v2 v3 v4 v5 v6 : Value) (w1 : Int32) (x : Int32) (st : List Value) (h : mr_h) (Q : Option Value → mr_h → Prop), mr_wp 155 198 [v0, .int w1, v2, v3, v4, v5, v6] (.int x :: st) h Q = mr_wp 155 199 [v0, .int w1, .int x, v3, v4, v5, v6] st h Q) ∧
    (∀ (v0 v1 v2 v5 v6 : Value) (x : Int32) (w3 : Int32) (st : List Value) (h : mr_h) (Q : Option Value → mr_h → Prop), mr_wp 155 199 [v0, v1, v2, .int w3, .int x, v5, v6] st h Q = mr_wp 155 202 [v0, v1, v2, .int w3, .int (x + (1)), v5, v6] st h Q) ∧
    (∀ (v0 v1 v2 v3 v4 v5 v6 : Value) (st : List Value) (h : mr_h) (Q : Option Value → mr_h → Prop), mr_wp 155 202 [v0, v1, v2, v3, v4, v5, v6] st h Q = mr_wp 155 43 [v0, v1, v2, v3, v4, v5, v6] st h Q) ∧
    (∀ (v0 v1 v4 v5 v6 : Value) (x : Int32) (w2 : Int32) (st : List Value) (h : mr_h) (Q : Option Value → mr_h → Prop), mr_wp 155 205 [v0, v1, .int w2, .int x, v4, v5, v6] st h Q = mr_wp 155 208 [v0, v1, .int w2, .int (x + (1)), v4, v5, v6] st h Q) ∧
    (∀ (v0 v1 v2 v3 v4 v5 v6 : Value) (st : List Value) (h : mr_h) (Q : Option Value → mr_h → Prop), mr_wp 155 208 [v0, v1, v2, v3, v4, v5, v6] st h Q = mr_wp 155 32 [v0, v1, v2, v3, v4, v5, v6] st h Q) ∧
    (∀ (v0 v1 v3 v4 v5 v6 : Value) (x : Int32) (st : List Value) (h : mr_h) (Q : Option Value → mr_h → Prop), mr_wp 155 211 [v0, v1, .int x, v3, v4, v5, v6] st h Q = mr_wp 155 212 [v0, v1, .int x, v3, v4, v5, v6] (.int x :: st) h Q) ∧
    (∀ (v0 v1 v2 v3 v4 v5 v6 : Value) (x : Int32) (h : mr_h) (Q : Option Value → mr_h → Prop), mr_wp 155 212 [v0, v1, v2, v3, v4, v5, v6] [.int x] h Q = Q (some (.int x)) h) :=
  ⟨fun v0 v1 v2 v3 v4 v5 v6 a x st h Q => gx_iald (by decide +kernel),
   fun v0 v1 v2 v3 v4 v5 v6 a x y st h Q => gx_iast (by decide +kernel),
   fun v0 v1 v2 v3 v6 x w4 st h Q => gx_one (i := .iinc 5 1) (len := 3) (by decide +kernel) rfl,
   fun v0 v1 v2 v3 v4 v5 v6 st h Q => gx_one (i := .goto (-109)) (len := 3) (by decide +kernel) rfl,
   fun v0 v2 v3 v4 v5 v6 x st h Q => gx_one (i := .iload_n 1) (len := 1) (by decide +kernel) rfl,
   fun v0 v1 v2 v3 v5 v6 x st h Q => gx_one (i := .iload 4) (len := 2) (by decide +kernel) rfl,
   fun v0 v1 v2 v3 v4 v5 v6 a0 a1 h Q => gx_stat (x := 116) (t := 130) (n := 2) (by decide +kernel) (by decide +kernel) (by decide) (by decide +kernel) rfl (Or.inl (Nat.le_of_ble_eq_true rfl)) (by show _ ≤ mr_mxl 130; rw [show mr_mxl 130 = 2 from by decide +kernel]; exact Nat.le_of_ble_eq_true rfl),
   fun v0 v1 v2 v3 v4 v5 v6 x st h Q => gx_br (i := .ifCond .eq 24) (len := 3) (c := .eq) (by decide +kernel) rfl rfl,
   fun v1 v2 v3 v4 v5 v6 x st h Q => gx_one (i := .aload_n 0) (len := 1) (by decide +kernel) rfl,
   fun v0 v1 v2 v3 v4 v5 v6 a st h Q => gx_get (x := 47) (by decide +kernel) (by decide +kernel),
   fun v0 v1 v2 v3 v5 v6 x st h Q => gx_one (i := .iload 4) (len := 2) (by decide +kernel) rfl,
   fun v0 v1 v2 v3 v4 v5 v6 a x st h Q => gx_iald (by decide +kernel),
   fun v0 v1 v3 v4 v5 v6 x st h Q => gx_one (i := .iload_n 2) (len := 1) (by decide +kernel) rfl,
   fun v0 v1 v2 v3 v4 v5 v6 x y st h Q => gx_br (i := .if_icmp .le 13) (len := 3) (c := .le) (by decide +kernel) rfl rfl,
   fun v1 v2 v3 v4 v5 v6 x st h Q => gx_one (i := .aload_n 0) (len := 1) (by decide +kernel) rfl,
   fun v0 v1 v2 v3 v4 v5 v6 a st h Q => gx_get (x := 47) (by decide +kernel) (by decide +kernel),
   fun v0 v1 v2 v3 v5 v6 x st h Q => gx_one (i := .iload 4) (len := 2) (by decide +kernel) rfl,
   fun v0 v1 v2 v3 v4 v5 v6 a x st h Q => gx_iald (by decide +kernel),
   fun v0 v1 v2 v3 v4 v5 v6 st h Q => gx_one (i := .goto 4) (len := 3) (by decide +kernel) rfl,
   fun v0 v1 v3 v4 v5 v6 x st h Q => gx_one (i := .iload_n 2) (len := 1) (by decide +kernel) rfl,
   fun v0 v2 v3 v4 v5 v6 w1 x st h Q => gx_one (i := .istore_n 2) (len := 1) (by decide +kernel) rfl,
   fun v0 v1 v2 v5 v6 x w3 st h Q => gx_one (i := .iinc 4 1) (len := 3) (by decide +kernel) rfl,
   fun v0 v1 v2 v3 v4 v5 v6 st h Q => gx_one (i := .goto (-159)) (len := 3) (by decide +kernel) rfl,
   fun v0 v1 v4 v5 v6 x w2 st h Q => gx_one (i := .iinc 3 1) (len := 3) (by decide +kernel) rfl,
   fun v0 v1 v2 v3 v4 v5 v6 st h Q => gx_one (i := .goto (-176)) (len := 3) (by decide +kernel) rfl,
   fun v0 v1 v3 v4 v5 v6 x st h Q => gx_one (i := .iload_n 2) (len := 1) (by decide +kernel) rfl,
   fun v0 v1 v2 v3 v4 v5 v6 x h Q => gx_ret (i := .ireturn) (len := 1) (by decide +kernel) rfl rfl (by simp only [mr_rt, if_pos]; rw [if_pos (Or.inl (by decide +kernel))])⟩

theorem S_mo_adds : (∀ (v1 v2 : Value) (x : Nat) (st : List Value) (h : mr_h) (Q : Option Value → mr_h → Prop), mr_wp 156 0 [.ref x, v1, v2] st h Q = mr_wp 156 1 [.ref x, v1, v2] (.ref x :: st) h Q) ∧
    (∀ (v0 v1 v2 : Value) (st : List Value) (h : mr_h) (Q : Option Value → mr_h → Prop), mr_wp 156 1 [v0, v1, v2] st h Q = mr_wp 156 2 [v0, v1, v2] (.int (0) :: st) h Q) ∧
    (∀ (v0 v1 v2 : Value) (a : Nat) (x : Int32) (st : List Value) (h : mr_h) (Q : Option Value → mr_h → Prop), mr_wp 156 2 [v0, v1, v2] (.int x :: .ref a :: st) h Q = mr_pf (h.1 a) 11 0 (.int x) (fun c => mr_wp 156 5 [v0, v1, v2] st (mr_up h a c) Q)) ∧
    (∀ (v1 v2 : Value) (x : Nat) (st : List Value) (h : mr_h) (Q : Option Value → mr_h → Prop), mr_wp 156 5 [.ref x, v1, v2] st h Q = mr_wp 156 6 [.ref x, v1, v2] (.ref x :: st) h Q) ∧
    (∀ (v0 v2 : Value) (x : Int32) (st : List Value) (h : mr_h) (Q : Option Value → mr_h → Prop), mr_wp 156 6 [v0, .int x, v2] st h Q = mr_wp 156 7 [v0, .int x, v2] (.int x :: st) h Q) ∧
    (∀ (v0 v1 : Value) (x : Int32) (st : List Value) (h : mr_h) (Q : Option Value → mr_h → Prop), mr_wp 156 7 [v0, v1, .int x] st h Q = mr_wp 156 8 [v0, v1, .int x] (.int x :: st) h Q) ∧
    (∀ (v0 v1 v2 : Value) (a0 : Int32) (a1 : Int32) (o : Nat) (h : mr_h) (Q : Option Value → mr_h → Prop), mr_wp 156 8 [v0, v1, v2] [.int a1, .int a0, .ref o] h Q = mr_rc (h.1 o) 11 (mr_run 144 [.ref o, .int a0, .int a1] h (fun v h' => mr_wp 156 11 [v0, v1, v2] (v.toList ++ []) h' Q))) ∧
    (∀ (v0 v1 v2 : Value) (x : Int32) (st : List Value) (h : mr_h) (Q : Option Value → mr_h → Prop), mr_wp 156 11 [v0, v1, v2] (.int x :: st) h Q = if ¬ x = 0 then mr_wp 156 16 [v0, v1, v2] st h Q else mr_wp 156 14 [v0, v1, v2] st h Q) ∧
    (∀ (v0 v1 v2 : Value) (st : List Value) (h : mr_h) (Q : Option Value → mr_h → Prop), mr_wp 156 14 [v0, v1, v2] st h Q = mr_wp 156 15 [v0, v1, v2] (.int (-1) :: st) h Q) ∧
    (∀ (v0 v1 v2 : Value) (x : Int32) (h : mr_h) (Q : Option Value → mr_h → Prop), mr_wp 156 15 [v0, v1, v2] [.int x] h Q = Q (some (.int x)) h) ∧
    (∀ (v1 v2 : Value) (x : Nat) (st : List Value) (h : mr_h) (Q : Option Value → mr_h → Prop), mr_wp 156 16 [.ref x, v1, v2] st h Q = mr_wp 156 17 [.ref x, v1, v2] (.ref x :: st) h Q) ∧
    (∀ (v0 v1 v2 : Value) (a : Nat) (st : List Value) (h : mr_h) (Q : Option Value → mr_h → Prop), mr_wp 156 17 [v0, v1, v2] (.ref a :: st) h Q = mr_gf (h.1 a) 11 12 (fun v => mr_wp 156 20 [v0, v1, v2] (v :: st) h Q)) ∧
    (∀ (v0 v1 v2 : Value) (st : List Value) (h : mr_h) (Q : Option Value → mr_h → Prop), mr_wp 156 20 [v0, v1, v2] st h Q = mr_wp 156 21 [v0, v1, v2] (.int (0) :: st) h Q) ∧
    (∀ (v0 v2 : Value) (x : Int32) (st : List Value) (h : mr_h) (Q : Option Value → mr_h → Prop), mr_wp 156 21 [v0, .int x, v2] st h Q = mr_wp 156 22 [v0, .int x, v2] (.int x :: st) h Q) ∧
    (∀ (v0 v1 v2 : Value) (x : Int32) (y : Int32) (st : List Value) (h : mr_h) (Q : Option Value → mr_h → Prop), mr_wp 156 22 [v0, v1, v2] (.int y :: .int x :: st) h Q = mr_wp 156 23 [v0, v1, v2] (.int (x + y) :: st) h Q) ∧
    (∀ (v0 v1 v2 : Value) (a : Nat) (x : Int32) (st : List Value) (h : mr_h) (Q : Option Value → mr_h → Prop), mr_wp 156 23 [v0, v1, v2] (.int x :: .ref a :: st) h Q = mr_ai (h.1 a) x (fun v => mr_wp 156 24 [v0, v1, v2] (.int v :: st) h Q)) ∧
    (∀ (v0 v1 : Value) (x : Int32) (st : List Value) (h : mr_h) (Q : Option Value → mr_h → Prop), mr_wp 156 24 [v0, v1, .int x] st h Q = mr_wp 156 25 [v0, v1, .int x] (.int x :: st) h Q) ∧
    (∀ (v0 v1 v2 : Value) (a0 : Int32) (a1 : Int32) (h : mr_h) (Q : Option Value → mr_h → Prop), mr_wp 156 25 [v0, v1, v2] [.int a1, .int a0] h Q = mr_run 130 [.int a0, .int a1] h (fun v h' => mr_wp 156 28 [v0, v1, v2] (v.toList ++ []) h' Q)) ∧
    (∀ (v0 v1 v2 : Value) (x : Int32) (st : List Value) (h : mr_h) (Q : Option Value → mr_h → Prop), mr_wp 156 28 [v0, v1, v2] (.int x :: st) h Q = if x = 0 then mr_wp 156 34 [v0, v1, v2] st h Q else mr_wp 156 31 [v0, v1, v2] st h Q) ∧
    (∀ (v0 v1 v2 : Value) (st : List Value) (h : mr_h) (Q : Option Value → mr_h → Prop), mr_wp 156 31 [v0, v1, v2] st h Q = mr_wp 156 33 [v0, v1, v2] (.int (-2) :: st) h Q) ∧
    (∀ (v0 v1 v2 : Value) (x : Int32) (h : mr_h) (Q : Option Value → mr_h → Prop), mr_wp 156 33 [v0, v1, v2] [.int x] h Q = Q (some (.int x)) h) ∧
    (∀ (v1 v2 : Value) (x : Nat) (st : List Value) (h : mr_h) (Q : Option Value → mr_h → Prop), mr_wp 156 34 [.ref x, v1, v2] st h Q = mr_wp 156 35 [.ref x, v1, v2] (.ref x :: st) h Q) ∧
    (∀ (v0 v1 v2 : Value) (o : Nat) (h : mr_h) (Q : Option Value → mr_h → Prop), mr_wp 156 35 [v0, v1, v2] [.ref o] h Q = mr_rc (h.1 o) 11 (mr_run 157 [.ref o] h (fun v h' => mr_wp 156 38 [v0, v1, v2] (v.toList ++ []) h' Q))) ∧
    (∀ (v1 v2 : Value) (x : Nat) (st : List Value) (h : mr_h) (Q : Option Value → mr_h → Prop), mr_wp 156 38 [.ref x, v1, v2] st h Q = mr_wp 156 39 [.ref x, v1, v2] (.ref x :: st) h Q) ∧
    (∀ (v0 v1 v2 : Value) (a : Nat) (st : List Value) (h : mr_h) (Q : Option Value → mr_h → Prop), mr_wp 156 39 [v0, v1, v2] (.ref a :: st) h Q = mr_gf (h.1 a) 11 12 (fun v => mr_wp 156 42 [v0, v1, v2] (v :: st) h Q)) ∧
    (∀ (v0 v1 v2 : Value) (st : List Value) (h : mr_h) (Q : Option Value → mr_h → Prop), mr_wp 156 42 [v0, v1, v2] st h Q = mr_wp 156 43 [v0, v1, v2] (.int (0) :: st) h Q) ∧
    (∀ (v0 v2 : Value) (x : Int32) (st : List Value) (h : mr_h) (Q : Option Value → mr_h → Prop), mr_wp 156 43 [v0, .int x, v2] st h Q = mr_wp 156 44 [v0, .int x, v2] (.int x :: st) h Q) ∧
    (∀ (v0 v1 v2 : Value) (x : Int32) (y : Int32) (st : List Value) (h : mr_h) (Q : Option Value → mr_h → Prop), mr_wp 156 44 [v0, v1, v2] (.int y :: .int x :: st) h Q = mr_wp 156 45 [v0, v1, v2] (.int (x + y) :: st) h Q) ∧
    (∀ (v0 v1 v2 : Value) (x : Int32) (y : Nat) (st : List Value) (h : mr_h) (Q : Option Value → mr_h → Prop), mr_wp 156 45 [v0, v1, v2] (.int x :: .ref y :: st) h Q = mr_wp 156 46 [v0, v1, v2] (.int x :: .ref y :: .int x :: .ref y :: st) h Q) ∧
    (∀ (v0 v1 v2 : Value) (a : Nat) (x : Int32) (st : List Value) (h : mr_h) (Q : Option Value → mr_h → Prop), mr_wp 156 46 [v0, v1, v2] (.int x :: .ref a :: st) h Q = mr_ai (h.1 a) x (fun v => mr_wp 156 47 [v0, v1, v2] (.int v :: st) h Q)) ∧
    (∀ (v0 v1 v2 : Value) (st : List Value) (h : mr_h) (Q : Option Value → mr_h → Prop), mr_wp 156 47 [v0, v1, v2] st h Q = mr_wp 156 48 [v0, v1, v2] (.int (1) :: st) h Q) ∧
    (∀ (v0 v1 : Value) (x : Int32) (st : List Value) (h : mr_h) (Q : Option Value → mr_h → Prop), mr_wp 156 48 [v0, v1, .int x] st h Q = mr_wp 156 49 [v0, v1, .int x] (.int x :: st) h Q) ∧
    (∀ (v0 v1 v2 : Value) (x : Int32) (y : Int32) (st : List Value) (h : mr_h) (Q : Option Value → mr_h → Prop), mr_wp 156 49 [v0, v1, v2] (.int y :: .int x :: st) h Q = mr_wp 156 50 [v0, v1, v2] (.int (x <<< (y &&& 31)) :: st) h Q) ∧
    (∀ (v0 v1 v2 : Value) (x : Int32) (y : Int32) (st : List Value) (h : mr_h) (Q : Option Value → mr_h → Prop), mr_wp 156 50 [v0, v1, v2] (.int y :: .int x :: st) h Q = mr_wp 156 51 [v0, v1, v2] (.int (x ||| y) :: st) h Q) ∧
    (∀ (v0 v1 v2 : Value) (a : Nat) (x : Int32) (y : Int32) (st : List Value) (h : mr_h) (Q : Option Value → mr_h → Prop), mr_wp 156 51 [v0, v1, v2] (.int y :: .int x :: .ref a :: st) h Q = mr_si (h.1 a) x y (fun c => mr_wp 156 52 [v0, v1, v2] st (mr_up h a c) Q)) ∧
    (∀ (v1 v2 : Value) (x : Nat) (st : List Value) (h : mr_h) (Q : Option Value → mr_h → Prop), mr_wp 156 52 [.ref x, v1, v2] st h Q = mr_wp 156 53 [.ref x, v1, v2] (.ref x :: st) h Q) ∧
    (∀ (v0 v1 v2 : Value) (o : Nat) (h : mr_h) (Q : Option Value → mr_h → Prop), mr_wp 156 53 [v0, v1, v2] [.ref o] h Q = mr_rc (h.1 o) 11 (mr_run 148 [.ref o] h (fun v h' => mr_wp 156 56 [v0, v1, v2] (v.toList ++ []) h' Q))) ∧
    (∀ (v0 v1 v2 : Value) (x : Int32) (h : mr_h) (Q : Option Value → mr_h → Prop), mr_wp 156 56 [v0, v1, v2] [.int x] h Q = Q (some (.int x)) h) :=
  ⟨fun v1 v2 x st h Q => gx_one (i := .aload_n 0) (len := 1) (by decide +kernel) rfl,
   fun v0 v1 v2 st h Q => gx_one (i := .iconst 0) (len := 1) (by decide +kernel) rfl,
   fun v0 v1 v2 a x st h Q => gx_put (x := 65) (by decide +kernel) (by decide +kernel) ⟨rfl, Or.inl rfl⟩,
   fun v1 v2 x st h Q => gx_one (i := .aload_n 0) (len := 1) (by decide +kernel) rfl,
   fun v0 v2 x st h Q => gx_one (i := .iload_n 1) (len := 1) (by decide +kernel) rfl,
   fun v0 v1 x st h Q => gx_one (i := .iload_n 2) (len := 1) (by decide +kernel) rfl,
   fun v0 v1 v2 a0 a1 o h Q => gx_virt (x := 173) (n := 2) (by decide +kernel) (by decide +kernel) rfl (Or.inl (Nat.le_of_ble_eq_true rfl)) (by show _ ≤ mr_mxl 144; rw [show mr_mxl 144 = 3 from by decide +kernel]; exact Nat.le_of_ble_eq_true rfl) (by decide +kernel),
   fun v0 v1 v2 x st h Q => gx_br (i := .ifCond .ne 5) (len := 3) (c := .ne) (by decide +kernel) rfl rfl,
   fun v0 v1 v2 st h Q => gx_one (i := .iconst (-1)) (len := 1) (by decide +kernel) rfl,
   fun v0 v1 v2 x h Q => gx_ret (i := .ireturn) (len := 1) (by decide +kernel) rfl rfl (by simp only [mr_rt, if_pos]; rw [if_pos (Or.inl (by decide +kernel))]),
   fun v1 v2 x st h Q => gx_one (i := .aload_n 0) (len := 1) (by decide +kernel) rfl,
   fun v0 v1 v2 a st h Q => gx_get (x := 16) (by decide +kernel) (by decide +kernel),
   fun v0 v1 v2 st h Q => gx_one (i := .iconst 0) (len := 1) (by decide +kernel) rfl,
   fun v0 v2 x st h Q => gx_one (i := .iload_n 1) (len := 1) (by decide +kernel) rfl,
   fun v0 v1 v2 x y st h Q => gx_one (i := .iadd) (len := 1) (by decide +kernel) rfl,
   fun v0 v1 v2 a x st h Q => gx_iald (by decide +kernel),
   fun v0 v1 x st h Q => gx_one (i := .iload_n 2) (len := 1) (by decide +kernel) rfl,
   fun v0 v1 v2 a0 a1 h Q => gx_stat (x := 116) (t := 130) (n := 2) (by decide +kernel) (by decide +kernel) (by decide) (by decide +kernel) rfl (Or.inl (Nat.le_of_ble_eq_true rfl)) (by show _ ≤ mr_mxl 130; rw [show mr_mxl 130 = 2 from by decide +kernel]; exact Nat.le_of_ble_eq_true rfl),
   fun v0 v1 v2 x st h Q => gx_br (i := .ifCond .eq 6) (len := 3) (c := .eq) (by decide +kernel) rfl rfl,
   fun v0 v1 v2 st h Q => gx_one (i := .bipush (-2)) (len := 2) (by decide +kernel) rfl,
   fun v0 v1 v2 x h Q => gx_ret (i := .ireturn) (len := 1) (by decide +kernel) rfl rfl (by simp only [mr_rt, if_pos]; rw [if_pos (Or.inl (by decide +kernel))]),
   fun v1 v2 x st h Q => gx_one (i := .aload_n 0) (len := 1) (by decide +kernel) rfl,
   fun v0 v1 v2 o h Q => gx_virt (x := 204) (n := 0) (by decide +kernel) (by decide +kernel) rfl (Or.inl (Nat.le_of_ble_eq_true rfl)) (by show _ ≤ mr_mxl 157; rw [show mr_mxl 157 = 2 from by decide +kernel]; exact Nat.le_of_ble_eq_true rfl) (by decide +kernel),
   fun v1 v2 x st h Q => gx_one (i := .aload_n 0) (len := 1) (by decide +kernel) rfl,
   fun v0 v1 v2 a st h Q => gx_get (x := 16) (by decide +kernel) (by decide +kernel),
   fun v0 v1 v2 st h Q => gx_one (i := .iconst 0) (len := 1) (by decide +kernel) rfl,
   fun v0 v2 x st h Q => gx_one (i := .iload_n 1) (len := 1) (by decide +kernel) rfl,
   fun v0 v1 v2 x y st h Q => gx_one (i := .iadd) (len := 1) (by decide +kernel) rfl,
   fun v0 v1 v2 x y st h Q => gx_one (i := .dup2) (len := 1) (by decide +kernel) rfl,
   fun v0 v1 v2 a x st h Q => gx_iald (by decide +kernel),
   fun v0 v1 v2 st h Q => gx_one (i := .iconst 1) (len := 1) (by decide +kernel) rfl,
   fun v0 v1 x st h Q => gx_one (i := .iload_n 2) (len := 1) (by decide +kernel) rfl,
   fun v0 v1 v2 x y st h Q => gx_one (i := .ishl) (len := 1) (by decide +kernel) rfl,
   fun v0 v1 v2 x y st h Q => gx_one (i := .ior) (len := 1) (by decide +kernel) rfl,
   fun v0 v1 v2 a x y st h Q => gx_iast (by decide +kernel),
   fun v1 v2 x st h Q => gx_one (i := .aload_n 0) (len := 1) (by decide +kernel) rfl,
   fun v0 v1 v2 o h Q => gx_virt (x := 192) (n := 0) (by decide +kernel) (by decide +kernel) rfl (Or.inl (Nat.le_of_ble_eq_true rfl)) (by show _ ≤ mr_mxl 148; rw [show mr_mxl 148 = 4 from by decide +kernel]; exact Nat.le_of_ble_eq_true rfl) (by decide +kernel),
   fun v0 v1 v2 x h Q => gx_ret (i := .ireturn) (len := 1) (by decide +kernel) rfl rfl (by simp only [mr_rt, if_pos]; rw [if_pos (Or.inl (by decide +kernel))])⟩
theorem s_mo_notes_11 (v0 : Value) (x : Int32) (st : List Value) (h : mr_h) (Q : Option Value → mr_h → Prop) : mr_wp 157 11 [v0, .int x] st h Q = mr_wp 157 12 [v0, .int x] (.int x :: st) h Q := gx_one (i := .iload_n 1) (len := 1) (by decide +kernel) rfl
theorem s_mo_notes_47 (v0 : Value) (x : Int32) (st : List Value) (h : mr_h) (Q : Option Value → mr_h → Prop) : mr_wp 157 47 [v0, .int x] st h Q = mr_wp 157 48 [v0, .int x] (.int x :: st) h Q := gx_one (i := .iload_n 1) (len := 1) (by decide +kernel) rfl
theorem S_mo_notes_0 : (∀ (v1 : Value) (x : Nat) (st : List Value) (h : mr_h) (Q : Option Value → mr_h → Prop), mr_wp 157 0 [.ref x, v1] st h Q = mr_wp 157 1 [.ref x, v1] (.ref x :: st) h Q) ∧
    (∀ (v0 v1 : Value) (a : Nat) (st : List Value) (h : mr_h) (Q : Option Value → mr_h → Prop), mr_wp 157 1 [v0, v1] (.ref a :: st) h Q = mr_gf (h.1 a) 11 17 (fun v => mr_wp 157 4 [v0, v1] (v :: st) h Q)) ∧
    (∀ (v0 v1 : Value) (st : List Value) (h : mr_h) (Q : Option Value → mr_h → Prop), mr_wp 157 4 [v0, v1] st h Q = mr_wp 157 6 [v0, v1] (.int (10) :: st) h Q) ∧
    (∀ (v0 v1 : Value) (x : Int32) (y : Int32) (st : List Value) (h : mr_h) (Q : Option Value → mr_h → Prop), mr_wp 157 6 [v0, v1] (.int y :: .int x :: st) h Q = if ¬ x = y then mr_wp 157 45 [v0, v1] st h Q else mr_wp 157 9 [v0, v1] st h Q) ∧
    (∀ (v0 v1 : Value) (st : List Value) (h : mr_h) (Q : Option Value → mr_h → Prop), mr_wp 157 9 [v0, v1] st h Q = mr_wp 157 10 [v0, v1] (.int (0) :: st) h Q) ∧
    (∀ (v1 : Value) (w0 : Nat) (x : Int32) (st : List Value) (h : mr_h) (Q : Option Value → mr_h → Prop), mr_wp 157 10 [.ref w0, v1] (.int x :: st) h Q = mr_wp 157 11 [.ref w0, .int x] st h Q) ∧
    (∀ (v0 v1 : Value) (st : List Value) (h : mr_h) (Q : Option Value → mr_h → Prop), mr_wp 157 12 [v0, v1] st h Q = mr_wp 157 15 [v0, v1] (.int (216) :: st) h Q) ∧
    (∀ (v0 v1 : Value) (x : Int32) (y : Int32) (st : List Value) (h : mr_h) (Q : Option Value → mr_h → Prop), mr_wp 157 15 [v0, v1] (.int y :: .int x :: st) h Q = if y ≤ x then mr_wp 157 39 [v0, v1] st h Q else mr_wp 157 18 [v0, v1] st h Q) ∧
    (∀ (v1 : Value) (x : Nat) (st : List Value) (h : mr_h) (Q : Option Value → mr_h → Prop), mr_wp 157 18 [.ref x, v1] st h Q = mr_wp 157 19 [.ref x, v1] (.ref x :: st) h Q) ∧
    (∀ (v0 v1 : Value) (a : Nat) (st : List Value) (h : mr_h) (Q : Option Value → mr_h → Prop), mr_wp 157 19 [v0, v1] (.ref a :: st) h Q = mr_gf (h.1 a) 11 16 (fun v => mr_wp 157 22 [v0, v1] (v :: st) h Q)) ∧
    (∀ (v0 : Value) (x : Int32) (st : List Value) (h : mr_h) (Q : Option Value → mr_h → Prop), mr_wp 157 22 [v0, .int x] st h Q = mr_wp 157 23 [v0, .int x] (.int x :: st) h Q) ∧
    (∀ (v1 : Value) (x : Nat) (st : List Value) (h : mr_h) (Q : Option Value → mr_h → Prop), mr_wp 157 23 [.ref x, v1] st h Q = mr_wp 157 24 [.ref x, v1] (.ref x :: st) h Q) ∧
    (∀ (v0 v1 : Value) (a : Nat) (st : List Value) (h : mr_h) (Q : Option Value → mr_h → Prop), mr_wp 157 24 [v0, v1] (.ref a :: st) h Q = mr_gf (h.1 a) 11 16 (fun v => mr_wp 157 27 [v0, v1] (v :: st) h Q)) ∧
    (∀ (v0 : Value) (x : Int32) (st : List Value) (h : mr_h) (Q : Option Value → mr_h → Prop), mr_wp 157 27 [v0, .int x] st h Q = mr_wp 157 28 [v0, .int x] (.int x :: st) h Q) ∧
    (∀ (v0 v1 : Value) (st : List Value) (h : mr_h) (Q : Option Value → mr_h → Prop), mr_wp 157 28 [v0, v1] st h Q = mr_wp 157 30 [v0, v1] (.int (24) :: st) h Q) ∧
    (∀ (v0 v1 : Value) (x : Int32) (y : Int32) (st : List Value) (h : mr_h) (Q : Option Value → mr_h → Prop), mr_wp 157 30 [v0, v1] (.int y :: .int x :: st) h Q = mr_wp 157 31 [v0, v1] (.int (x + y) :: st) h Q) ∧
    (∀ (v0 v1 : Value) (a : Nat) (x : Int32) (st : List Value) (h : mr_h) (Q : Option Value → mr_h → Prop), mr_wp 157 31 [v0, v1] (.int x :: .ref a :: st) h Q = mr_ai (h.1 a) x (fun v => mr_wp 157 32 [v0, v1] (.int v :: st) h Q)) ∧
    (∀ (v0 v1 : Value) (a : Nat) (x : Int32) (y : Int32) (st : List Value) (h : mr_h) (Q : Option Value → mr_h → Prop), mr_wp 157 32 [v0, v1] (.int y :: .int x :: .ref a :: st) h Q = mr_si (h.1 a) x y (fun c => mr_wp 157 33 [v0, v1] st (mr_up h a c) Q)) ∧
    (∀ (x : Int32) (w0 : Nat) (st : List Value) (h : mr_h) (Q : Option Value → mr_h → Prop), mr_wp 157 33 [.ref w0, .int x] st h Q = mr_wp 157 36 [.ref w0, .int (x + (1))] st h Q) ∧
    (∀ (v0 v1 : Value) (st : List Value) (h : mr_h) (Q : Option Value → mr_h → Prop), mr_wp 157 36 [v0, v1] st h Q = mr_wp 157 11 [v0, v1] st h Q) ∧
    (∀ (v1 : Value) (x : Nat) (st : List Value) (h : mr_h) (Q : Option Value → mr_h → Prop), mr_wp 157 39 [.ref x, v1] st h Q = mr_wp 157 40 [.ref x, v1] (.ref x :: st) h Q) ∧
    (∀ (v0 v1 : Value) (st : List Value) (h : mr_h) (Q : Option Value → mr_h → Prop), mr_wp 157 40 [v0, v1] st h Q = mr_wp 157 42 [v0, v1] (.int (9) :: st) h Q) ∧
    (∀ (v0 v1 : Value) (a : Nat) (x : Int32) (st : List Value) (h : mr_h) (Q : Option Value → mr_h → Prop), mr_wp 157 42 [v0, v1] (.int x :: .ref a :: st) h Q = mr_pf (h.1 a) 11 17 (.int x) (fun c => mr_wp 157 45 [v0, v1] st (mr_up h a c) Q)) ∧
    (∀ (v0 v1 : Value) (st : List Value) (h : mr_h) (Q : Option Value → mr_h → Prop), mr_wp 157 45 [v0, v1] st h Q = mr_wp 157 46 [v0, v1] (.int (0) :: st) h Q) ∧
    (∀ (v1 : Value) (w0 : Nat) (x : Int32) (st : List Value) (h : mr_h) (Q : Option Value → mr_h → Prop), mr_wp 157 46 [.ref w0, v1] (.int x :: st) h Q = mr_wp 157 47 [.ref w0, .int x] st h Q) ∧
    (∀ (v0 v1 : Value) (st : List Value) (h : mr_h) (Q : Option Value → mr_h → Prop), mr_wp 157 48 [v0, v1] st h Q = mr_wp 157 50 [v0, v1] (.int (24) :: st) h Q) ∧
    (∀ (v0 v1 : Value) (x : Int32) (y : Int32) (st : List Value) (h : mr_h) (Q : Option Value → mr_h → Prop), mr_wp 157 50 [v0, v1] (.int y :: .int x :: st) h Q = if y ≤ x then mr_wp 157 79 [v0, v1] st h Q else mr_wp 157 53 [v0, v1] st h Q) ∧
    (∀ (v1 : Value) (x : Nat) (st : List Value) (h : mr_h) (Q : Option Value → mr_h → Prop), mr_wp 157 53 [.ref x, v1] st h Q = mr_wp 157 54 [.ref x, v1] (.ref x :: st) h Q) ∧
    (∀ (v0 v1 : Value) (a : Nat) (st : List Value) (h : mr_h) (Q : Option Value → mr_h → Prop), mr_wp 157 54 [v0, v1] (.ref a :: st) h Q = mr_gf (h.1 a) 11 16 (fun v => mr_wp 157 57 [v0, v1] (v :: st) h Q)) ∧
    (∀ (v0 v1 : Value) (st : List Value) (h : mr_h) (Q : Option Value → mr_h → Prop), mr_wp 157 57 [v0, v1] st h Q = mr_wp 157 59 [v0, v1] (.int (24) :: st) h Q) ∧
    (∀ (v1 : Value) (x : Nat) (st : List Value) (h : mr_h) (Q : Option Value → mr_h → Prop), mr_wp 157 59 [.ref x, v1] st h Q = mr_wp 157 60 [.ref x, v1] (.ref x :: st) h Q) ∧
    (∀ (v0 v1 : Value) (a : Nat) (st : List Value) (h : mr_h) (Q : Option Value → mr_h → Prop), mr_wp 157 60 [v0, v1] (.ref a :: st) h Q = mr_gf (h.1 a) 11 17 (fun v => mr_wp 157 63 [v0, v1] (v :: st) h Q)) ∧
    (∀ (v0 v1 : Value) (x : Int32) (y : Int32) (st : List Value) (h : mr_h) (Q : Option Value → mr_h → Prop), mr_wp 157 63 [v0, v1] (.int y :: .int x :: st) h Q = mr_wp 157 64 [v0, v1] (.int (x * y) :: st) h Q) ∧
    (∀ (v0 : Value) (x : Int32) (st : List Value) (h : mr_h) (Q : Option Value → mr_h → Prop), mr_wp 157 64 [v0, .int x] st h Q = mr_wp 157 65 [v0, .int x] (.int x :: st) h Q) ∧
    (∀ (v0 v1 : Value) (x : Int32) (y : Int32) (st : List Value) (h : mr_h) (Q : Option Value → mr_h → Prop), mr_wp 157 65 [v0, v1] (.int y :: .int x :: st) h Q = mr_wp 157 66 [v0, v1] (.int (x + y) :: st) h Q) ∧
    (∀ (v1 : Value) (x : Nat) (st : List Value) (h : mr_h) (Q : Option Value → mr_h → Prop), mr_wp 157 66 [.ref x, v1] st h Q = mr_wp 157 67 [.ref x, v1] (.ref x :: st) h Q) ∧
    (∀ (v0 v1 : Value) (a : Nat) (st : List Value) (h : mr_h) (Q : Option Value → mr_h → Prop), mr_wp 157 67 [v0, v1] (.ref a :: st) h Q = mr_gf (h.1 a) 11 12 (fun v => mr_wp 157 70 [v0, v1] (v :: st) h Q)) ∧
    (∀ (v0 : Value) (x : Int32) (st : List Value) (h : mr_h) (Q : Option Value → mr_h → Prop), mr_wp 157 70 [v0, .int x] st h Q = mr_wp 157 71 [v0, .int x] (.int x :: st) h Q) ∧
    (∀ (v0 v1 : Value) (a : Nat) (x : Int32) (st : List Value) (h : mr_h) (Q : Option Value → mr_h → Prop), mr_wp 157 71 [v0, v1] (.int x :: .ref a :: st) h Q = mr_ai (h.1 a) x (fun v => mr_wp 157 72 [v0, v1] (.int v :: st) h Q)) ∧
    (∀ (v0 v1 : Value) (a : Nat) (x : Int32) (y : Int32) (st : List Value) (h : mr_h) (Q : Option Value → mr_h → Prop), mr_wp 157 72 [v0, v1] (.int y :: .int x :: .ref a :: st) h Q = mr_si (h.1 a) x y (fun c => mr_wp 157 73 [v0, v1] st (mr_up h a c) Q)) :=
  ⟨fun v1 x st h Q => gx_one (i := .aload_n 0) (len := 1) (by decide +kernel) rfl,
   fun v0 v1 a st h Q => gx_get (x := 129) (by decide +kernel) (by decide +kernel),
   fun v0 v1 st h Q => gx_one (i := .bipush 10) (len := 2) (by decide +kernel) rfl,
   fun v0 v1 x y st h Q => gx_br (i := .if_icmp .ne 39) (len := 3) (c := .ne) (by decide +kernel) rfl rfl,
   fun v0 v1 st h Q => gx_one (i := .iconst 0) (len := 1) (by decide +kernel) rfl,
   fun v1 w0 x st h Q => gx_one (i := .istore_n 1) (len := 1) (by decide +kernel) rfl,
   fun v0 v1 st h Q => gx_one (i := .sipush 216) (len := 3) (by decide +kernel) rfl,
   fun v0 v1 x y st h Q => gx_br (i := .if_icmp .ge 24) (len := 3) (c := .ge) (by decide +kernel) rfl rfl,
   fun v1 x st h Q => gx_one (i := .aload_n 0) (len := 1) (by decide +kernel) rfl,
   fun v0 v1 a st h Q => gx_get (x := 29) (by decide +kernel) (by decide +kernel),
   fun v0 x st h Q => gx_one (i := .iload_n 1) (len := 1) (by decide +kernel) rfl,
   fun v1 x st h Q => gx_one (i := .aload_n 0) (len := 1) (by decide +kernel) rfl,
   fun v0 v1 a st h Q => gx_get (x := 29) (by decide +kernel) (by decide +kernel),
   fun v0 x st h Q => gx_one (i := .iload_n 1) (len := 1) (by decide +kernel) rfl,
   fun v0 v1 st h Q => gx_one (i := .bipush 24) (len := 2) (by decide +kernel) rfl,
   fun v0 v1 x y st h Q => gx_one (i := .iadd) (len := 1) (by decide +kernel) rfl,
   fun v0 v1 a x st h Q => gx_iald (by decide +kernel),
   fun v0 v1 a x y st h Q => gx_iast (by decide +kernel),
   fun x w0 st h Q => gx_one (i := .iinc 1 1) (len := 3) (by decide +kernel) rfl,
   fun v0 v1 st h Q => gx_one (i := .goto (-25)) (len := 3) (by decide +kernel) rfl,
   fun v1 x st h Q => gx_one (i := .aload_n 0) (len := 1) (by decide +kernel) rfl,
   fun v0 v1 st h Q => gx_one (i := .bipush 9) (len := 2) (by decide +kernel) rfl,
   fun v0 v1 a x st h Q => gx_put (x := 129) (by decide +kernel) (by decide +kernel) ⟨rfl, Or.inl rfl⟩,
   fun v0 v1 st h Q => gx_one (i := .iconst 0) (len := 1) (by decide +kernel) rfl,
   fun v1 w0 x st h Q => gx_one (i := .istore_n 1) (len := 1) (by decide +kernel) rfl,
   fun v0 v1 st h Q => gx_one (i := .bipush 24) (len := 2) (by decide +kernel) rfl,
   fun v0 v1 x y st h Q => gx_br (i := .if_icmp .ge 29) (len := 3) (c := .ge) (by decide +kernel) rfl rfl,
   fun v1 x st h Q => gx_one (i := .aload_n 0) (len := 1) (by decide +kernel) rfl,
   fun v0 v1 a st h Q => gx_get (x := 29) (by decide +kernel) (by decide +kernel),
   fun v0 v1 st h Q => gx_one (i := .bipush 24) (len := 2) (by decide +kernel) rfl,
   fun v1 x st h Q => gx_one (i := .aload_n 0) (len := 1) (by decide +kernel) rfl,
   fun v0 v1 a st h Q => gx_get (x := 129) (by decide +kernel) (by decide +kernel),
   fun v0 v1 x y st h Q => gx_one (i := .imul) (len := 1) (by decide +kernel) rfl,
   fun v0 x st h Q => gx_one (i := .iload_n 1) (len := 1) (by decide +kernel) rfl,
   fun v0 v1 x y st h Q => gx_one (i := .iadd) (len := 1) (by decide +kernel) rfl,
   fun v1 x st h Q => gx_one (i := .aload_n 0) (len := 1) (by decide +kernel) rfl,
   fun v0 v1 a st h Q => gx_get (x := 16) (by decide +kernel) (by decide +kernel),
   fun v0 x st h Q => gx_one (i := .iload_n 1) (len := 1) (by decide +kernel) rfl,
   fun v0 v1 a x st h Q => gx_iald (by decide +kernel),
   fun v0 v1 a x y st h Q => gx_iast (by decide +kernel)⟩
theorem S_mo_notes_1 : (∀ (x : Int32) (w0 : Nat) (st : List Value) (h : mr_h) (Q : Option Value → mr_h → Prop), mr_wp 157 73 [.ref w0, .int x] st h Q = mr_wp 157 76 [.ref w0, .int (x + (1))] st h Q) ∧
    (∀ (v0 v1 : Value) (st : List Value) (h : mr_h) (Q : Option Value → mr_h → Prop), mr_wp 157 76 [v0, v1] st h Q = mr_wp 157 47 [v0, v1] st h Q) ∧
    (∀ (v1 : Value) (x : Nat) (st : List Value) (h : mr_h) (Q : Option Value → mr_h → Prop), mr_wp 157 79 [.ref x, v1] st h Q = mr_wp 157 80 [.ref x, v1] (.ref x :: st) h Q) ∧
    (∀ (v0 v1 : Value) (x : Nat) (st : List Value) (h : mr_h) (Q : Option Value → mr_h → Prop), mr_wp 157 80 [v0, v1] (.ref x :: st) h Q = mr_wp 157 81 [v0, v1] (.ref x :: .ref x :: st) h Q) ∧
    (∀ (v0 v1 : Value) (a : Nat) (st : List Value) (h : mr_h) (Q : Option Value → mr_h → Prop), mr_wp 157 81 [v0, v1] (.ref a :: st) h Q = mr_gf (h.1 a) 11 17 (fun v => mr_wp 157 84 [v0, v1] (v :: st) h Q)) ∧
    (∀ (v0 v1 : Value) (st : List Value) (h : mr_h) (Q : Option Value → mr_h → Prop), mr_wp 157 84 [v0, v1] st h Q = mr_wp 157 85 [v0, v1] (.int (1) :: st) h Q) ∧
    (∀ (v0 v1 : Value) (x : Int32) (y : Int32) (st : List Value) (h : mr_h) (Q : Option Value → mr_h → Prop), mr_wp 157 85 [v0, v1] (.int y :: .int x :: st) h Q = mr_wp 157 86 [v0, v1] (.int (x + y) :: st) h Q) ∧
    (∀ (v0 v1 : Value) (a : Nat) (x : Int32) (st : List Value) (h : mr_h) (Q : Option Value → mr_h → Prop), mr_wp 157 86 [v0, v1] (.int x :: .ref a :: st) h Q = mr_pf (h.1 a) 11 17 (.int x) (fun c => mr_wp 157 89 [v0, v1] st (mr_up h a c) Q)) ∧
    (∀ (v0 v1 : Value) (h : mr_h) (Q : Option Value → mr_h → Prop), mr_wp 157 89 [v0, v1] [] h Q = Q none h) :=
  ⟨fun x w0 st h Q => gx_one (i := .iinc 1 1) (len := 3) (by decide +kernel) rfl,
   fun v0 v1 st h Q => gx_one (i := .goto (-29)) (len := 3) (by decide +kernel) rfl,
   fun v1 x st h Q => gx_one (i := .aload_n 0) (len := 1) (by decide +kernel) rfl,
   fun v0 v1 x st h Q => gx_one (i := .dup) (len := 1) (by decide +kernel) rfl,
   fun v0 v1 a st h Q => gx_get (x := 129) (by decide +kernel) (by decide +kernel),
   fun v0 v1 st h Q => gx_one (i := .iconst 1) (len := 1) (by decide +kernel) rfl,
   fun v0 v1 x y st h Q => gx_one (i := .iadd) (len := 1) (by decide +kernel) rfl,
   fun v0 v1 a x st h Q => gx_put (x := 129) (by decide +kernel) (by decide +kernel) ⟨rfl, Or.inl rfl⟩,
   fun v0 v1 h Q => gx_ret (i := .return_) (len := 1) (by decide +kernel) rfl rfl (by simp only [mr_rt, if_pos]; rw [if_pos (by decide +kernel)])⟩

theorem S_mo_cuts : (∀ (v1 v2 : Value) (x : Nat) (st : List Value) (h : mr_h) (Q : Option Value → mr_h → Prop), mr_wp 158 0 [.ref x, v1, v2] st h Q = mr_wp 158 1 [.ref x, v1, v2] (.ref x :: st) h Q) ∧
    (∀ (v0 v1 v2 : Value) (st : List Value) (h : mr_h) (Q : Option Value → mr_h → Prop), mr_wp 158 1 [v0, v1, v2] st h Q = mr_wp 158 2 [v0, v1, v2] (.int (0) :: st) h Q) ∧
    (∀ (v0 v1 v2 : Value) (a : Nat) (x : Int32) (st : List Value) (h : mr_h) (Q : Option Value → mr_h → Prop), mr_wp 158 2 [v0, v1, v2] (.int x :: .ref a :: st) h Q = mr_pf (h.1 a) 11 0 (.int x) (fun c => mr_wp 158 5 [v0, v1, v2] st (mr_up h a c) Q)) ∧
    (∀ (v1 v2 : Value) (x : Nat) (st : List Value) (h : mr_h) (Q : Option Value → mr_h → Prop), mr_wp 158 5 [.ref x, v1, v2] st h Q = mr_wp 158 6 [.ref x, v1, v2] (.ref x :: st) h Q) ∧
    (∀ (v0 v2 : Value) (x : Int32) (st : List Value) (h : mr_h) (Q : Option Value → mr_h → Prop), mr_wp 158 6 [v0, .int x, v2] st h Q = mr_wp 158 7 [v0, .int x, v2] (.int x :: st) h Q) ∧
    (∀ (v0 v1 : Value) (x : Int32) (st : List Value) (h : mr_h) (Q : Option Value → mr_h → Prop), mr_wp 158 7 [v0, v1, .int x] st h Q = mr_wp 158 8 [v0, v1, .int x] (.int x :: st) h Q) ∧
    (∀ (v0 v1 v2 : Value) (a0 : Int32) (a1 : Int32) (o : Nat) (h : mr_h) (Q : Option Value → mr_h → Prop), mr_wp 158 8 [v0, v1, v2] [.int a1, .int a0, .ref o] h Q = mr_rc (h.1 o) 11 (mr_run 144 [.ref o, .int a0, .int a1] h (fun v h' => mr_wp 158 11 [v0, v1, v2] (v.toList ++ []) h' Q))) ∧
    (∀ (v0 v1 v2 : Value) (x : Int32) (st : List Value) (h : mr_h) (Q : Option Value → mr_h → Prop), mr_wp 158 11 [v0, v1, v2] (.int x :: st) h Q = if ¬ x = 0 then mr_wp 158 16 [v0, v1, v2] st h Q else mr_wp 158 14 [v0, v1, v2] st h Q) ∧
    (∀ (v0 v1 v2 : Value) (st : List Value) (h : mr_h) (Q : Option Value → mr_h → Prop), mr_wp 158 14 [v0, v1, v2] st h Q = mr_wp 158 15 [v0, v1, v2] (.int (-1) :: st) h Q) ∧
    (∀ (v0 v1 v2 : Value) (x : Int32) (h : mr_h) (Q : Option Value → mr_h → Prop), mr_wp 158 15 [v0, v1, v2] [.int x] h Q = Q (some (.int x)) h) ∧
    (∀ (v1 v2 : Value) (x : Nat) (st : List Value) (h : mr_h) (Q : Option Value → mr_h → Prop), mr_wp 158 16 [.ref x, v1, v2] st h Q = mr_wp 158 17 [.ref x, v1, v2] (.ref x :: st) h Q) ∧
    (∀ (v0 v1 v2 : Value) (a : Nat) (st : List Value) (h : mr_h) (Q : Option Value → mr_h → Prop), mr_wp 158 17 [v0, v1, v2] (.ref a :: st) h Q = mr_gf (h.1 a) 11 12 (fun v => mr_wp 158 20 [v0, v1, v2] (v :: st) h Q)) ∧
    (∀ (v0 v1 v2 : Value) (st : List Value) (h : mr_h) (Q : Option Value → mr_h → Prop), mr_wp 158 20 [v0, v1, v2] st h Q = mr_wp 158 21 [v0, v1, v2] (.int (0) :: st) h Q) ∧
    (∀ (v0 v2 : Value) (x : Int32) (st : List Value) (h : mr_h) (Q : Option Value → mr_h → Prop), mr_wp 158 21 [v0, .int x, v2] st h Q = mr_wp 158 22 [v0, .int x, v2] (.int x :: st) h Q) ∧
    (∀ (v0 v1 v2 : Value) (x : Int32) (y : Int32) (st : List Value) (h : mr_h) (Q : Option Value → mr_h → Prop), mr_wp 158 22 [v0, v1, v2] (.int y :: .int x :: st) h Q = mr_wp 158 23 [v0, v1, v2] (.int (x + y) :: st) h Q) ∧
    (∀ (v0 v1 v2 : Value) (a : Nat) (x : Int32) (st : List Value) (h : mr_h) (Q : Option Value → mr_h → Prop), mr_wp 158 23 [v0, v1, v2] (.int x :: .ref a :: st) h Q = mr_ai (h.1 a) x (fun v => mr_wp 158 24 [v0, v1, v2] (.int v :: st) h Q)) ∧
    (∀ (v0 v1 : Value) (x : Int32) (st : List Value) (h : mr_h) (Q : Option Value → mr_h → Prop), mr_wp 158 24 [v0, v1, .int x] st h Q = mr_wp 158 25 [v0, v1, .int x] (.int x :: st) h Q) ∧
    (∀ (v0 v1 v2 : Value) (a0 : Int32) (a1 : Int32) (h : mr_h) (Q : Option Value → mr_h → Prop), mr_wp 158 25 [v0, v1, v2] [.int a1, .int a0] h Q = mr_run 130 [.int a0, .int a1] h (fun v h' => mr_wp 158 28 [v0, v1, v2] (v.toList ++ []) h' Q)) ∧
    (∀ (v0 v1 v2 : Value) (x : Int32) (st : List Value) (h : mr_h) (Q : Option Value → mr_h → Prop), mr_wp 158 28 [v0, v1, v2] (.int x :: st) h Q = if ¬ x = 0 then mr_wp 158 34 [v0, v1, v2] st h Q else mr_wp 158 31 [v0, v1, v2] st h Q) ∧
    (∀ (v0 v1 v2 : Value) (st : List Value) (h : mr_h) (Q : Option Value → mr_h → Prop), mr_wp 158 31 [v0, v1, v2] st h Q = mr_wp 158 33 [v0, v1, v2] (.int (-2) :: st) h Q) ∧
    (∀ (v0 v1 v2 : Value) (x : Int32) (h : mr_h) (Q : Option Value → mr_h → Prop), mr_wp 158 33 [v0, v1, v2] [.int x] h Q = Q (some (.int x)) h) ∧
    (∀ (v1 v2 : Value) (x : Nat) (st : List Value) (h : mr_h) (Q : Option Value → mr_h → Prop), mr_wp 158 34 [.ref x, v1, v2] st h Q = mr_wp 158 35 [.ref x, v1, v2] (.ref x :: st) h Q) ∧
    (∀ (v0 v1 v2 : Value) (o : Nat) (h : mr_h) (Q : Option Value → mr_h → Prop), mr_wp 158 35 [v0, v1, v2] [.ref o] h Q = mr_rc (h.1 o) 11 (mr_run 157 [.ref o] h (fun v h' => mr_wp 158 38 [v0, v1, v2] (v.toList ++ []) h' Q))) ∧
    (∀ (v1 v2 : Value) (x : Nat) (st : List Value) (h : mr_h) (Q : Option Value → mr_h → Prop), mr_wp 158 38 [.ref x, v1, v2] st h Q = mr_wp 158 39 [.ref x, v1, v2] (.ref x :: st) h Q) ∧
    (∀ (v0 v1 v2 : Value) (a : Nat) (st : List Value) (h : mr_h) (Q : Option Value → mr_h → Prop), mr_wp 158 39 [v0, v1, v2] (.ref a :: st) h Q = mr_gf (h.1 a) 11 12 (fun v => mr_wp 158 42 [v0, v1, v2] (v :: st) h Q)) ∧
    (∀ (v0 v1 v2 : Value) (st : List Value) (h : mr_h) (Q : Option Value → mr_h → Prop), mr_wp 158 42 [v0, v1, v2] st h Q = mr_wp 158 43 [v0, v1, v2] (.int (0) :: st) h Q) ∧
    (∀ (v0 v2 : Value) (x : Int32) (st : List Value) (h : mr_h) (Q : Option Value → mr_h → Prop), mr_wp 158 43 [v0, .int x, v2] st h Q = mr_wp 158 44 [v0, .int x, v2] (.int x :: st) h Q) ∧
    (∀ (v0 v1 v2 : Value) (x : Int32) (y : Int32) (st : List Value) (h : mr_h) (Q : Option Value → mr_h → Prop), mr_wp 158 44 [v0, v1, v2] (.int y :: .int x :: st) h Q = mr_wp 158 45 [v0, v1, v2] (.int (x + y) :: st) h Q) ∧
    (∀ (v0 v1 v2 : Value) (x : Int32) (y : Nat) (st : List Value) (h : mr_h) (Q : Option Value → mr_h → Prop), mr_wp 158 45 [v0, v1, v2] (.int x :: .ref y :: st) h Q = mr_wp 158 46 [v0, v1, v2] (.int x :: .ref y :: .int x :: .ref y :: st) h Q) ∧
    (∀ (v0 v1 v2 : Value) (a : Nat) (x : Int32) (st : List Value) (h : mr_h) (Q : Option Value → mr_h → Prop), mr_wp 158 46 [v0, v1, v2] (.int x :: .ref a :: st) h Q = mr_ai (h.1 a) x (fun v => mr_wp 158 47 [v0, v1, v2] (.int v :: st) h Q)) ∧
    (∀ (v0 v1 v2 : Value) (st : List Value) (h : mr_h) (Q : Option Value → mr_h → Prop), mr_wp 158 47 [v0, v1, v2] st h Q = mr_wp 158 48 [v0, v1, v2] (.int (1) :: st) h Q) ∧
    (∀ (v0 v1 : Value) (x : Int32) (st : List Value) (h : mr_h) (Q : Option Value → mr_h → Prop), mr_wp 158 48 [v0, v1, .int x] st h Q = mr_wp 158 49 [v0, v1, .int x] (.int x :: st) h Q) ∧
    (∀ (v0 v1 v2 : Value) (x : Int32) (y : Int32) (st : List Value) (h : mr_h) (Q : Option Value → mr_h → Prop), mr_wp 158 49 [v0, v1, v2] (.int y :: .int x :: st) h Q = mr_wp 158 50 [v0, v1, v2] (.int (x <<< (y &&& 31)) :: st) h Q) ∧
    (∀ (v0 v1 v2 : Value) (x : Int32) (y : Int32) (st : List Value) (h : mr_h) (Q : Option Value → mr_h → Prop), mr_wp 158 50 [v0, v1, v2] (.int y :: .int x :: st) h Q = mr_wp 158 51 [v0, v1, v2] (.int (x ^^^ y) :: st) h Q) ∧
    (∀ (v0 v1 v2 : Value) (a : Nat) (x : Int32) (y : Int32) (st : List Value) (h : mr_h) (Q : Option Value → mr_h → Prop), mr_wp 158 51 [v0, v1, v2] (.int y :: .int x :: .ref a :: st) h Q = mr_si (h.1 a) x y (fun c => mr_wp 158 52 [v0, v1, v2] st (mr_up h a c) Q)) ∧
    (∀ (v1 v2 : Value) (x : Nat) (st : List Value) (h : mr_h) (Q : Option Value → mr_h → Prop), mr_wp 158 52 [.ref x, v1, v2] st h Q = mr_wp 158 53 [.ref x, v1, v2] (.ref x :: st) h Q) ∧
    (∀ (v0 v1 v2 : Value) (o : Nat) (h : mr_h) (Q : Option Value → mr_h → Prop), mr_wp 158 53 [v0, v1, v2] [.ref o] h Q = mr_rc (h.1 o) 11 (mr_run 148 [.ref o] h (fun v h' => mr_wp 158 56 [v0, v1, v2] (v.toList ++ []) h' Q))) ∧
    (∀ (v0 v1 v2 : Value) (x : Int32) (h : mr_h) (Q : Option Value → mr_h → Prop), mr_wp 158 56 [v0, v1, v2] [.int x] h Q = Q (some (.int x)) h) :=
  ⟨fun v1 v2 x st h Q => gx_one (i := .aload_n 0) (len := 1) (by decide +kernel) rfl,
   fun v0 v1 v2 st h Q => gx_one (i := .iconst 0) (len := 1) (by decide +kernel) rfl,
   fun v0 v1 v2 a x st h Q => gx_put (x := 65) (by decide +kernel) (by decide +kernel) ⟨rfl, Or.inl rfl⟩,
   fun v1 v2 x st h Q => gx_one (i := .aload_n 0) (len := 1) (by decide +kernel) rfl,
   fun v0 v2 x st h Q => gx_one (i := .iload_n 1) (len := 1) (by decide +kernel) rfl,
   fun v0 v1 x st h Q => gx_one (i := .iload_n 2) (len := 1) (by decide +kernel) rfl,
   fun v0 v1 v2 a0 a1 o h Q => gx_virt (x := 173) (n := 2) (by decide +kernel) (by decide +kernel) rfl (Or.inl (Nat.le_of_ble_eq_true rfl)) (by show _ ≤ mr_mxl 144; rw [show mr_mxl 144 = 3 from by decide +kernel]; exact Nat.le_of_ble_eq_true rfl) (by decide +kernel),
   fun v0 v1 v2 x st h Q => gx_br (i := .ifCond .ne 5) (len := 3) (c := .ne) (by decide +kernel) rfl rfl,
   fun v0 v1 v2 st h Q => gx_one (i := .iconst (-1)) (len := 1) (by decide +kernel) rfl,
   fun v0 v1 v2 x h Q => gx_ret (i := .ireturn) (len := 1) (by decide +kernel) rfl rfl (by simp only [mr_rt, if_pos]; rw [if_pos (Or.inl (by decide +kernel))]),
   fun v1 v2 x st h Q => gx_one (i := .aload_n 0) (len := 1) (by decide +kernel) rfl,
   fun v0 v1 v2 a st h Q => gx_get (x := 16) (by decide +kernel) (by decide +kernel),
   fun v0 v1 v2 st h Q => gx_one (i := .iconst 0) (len := 1) (by decide +kernel) rfl,
   fun v0 v2 x st h Q => gx_one (i := .iload_n 1) (len := 1) (by decide +kernel) rfl,
   fun v0 v1 v2 x y st h Q => gx_one (i := .iadd) (len := 1) (by decide +kernel) rfl,
   fun v0 v1 v2 a x st h Q => gx_iald (by decide +kernel),
   fun v0 v1 x st h Q => gx_one (i := .iload_n 2) (len := 1) (by decide +kernel) rfl,
   fun v0 v1 v2 a0 a1 h Q => gx_stat (x := 116) (t := 130) (n := 2) (by decide +kernel) (by decide +kernel) (by decide) (by decide +kernel) rfl (Or.inl (Nat.le_of_ble_eq_true rfl)) (by show _ ≤ mr_mxl 130; rw [show mr_mxl 130 = 2 from by decide +kernel]; exact Nat.le_of_ble_eq_true rfl),
   fun v0 v1 v2 x st h Q => gx_br (i := .ifCond .ne 6) (len := 3) (c := .ne) (by decide +kernel) rfl rfl,
   fun v0 v1 v2 st h Q => gx_one (i := .bipush (-2)) (len := 2) (by decide +kernel) rfl,
   fun v0 v1 v2 x h Q => gx_ret (i := .ireturn) (len := 1) (by decide +kernel) rfl rfl (by simp only [mr_rt, if_pos]; rw [if_pos (Or.inl (by decide +kernel))]),
   fun v1 v2 x st h Q => gx_one (i := .aload_n 0) (len := 1) (by decide +kernel) rfl,
   fun v0 v1 v2 o h Q => gx_virt (x := 204) (n := 0) (by decide +kernel) (by decide +kernel) rfl (Or.inl (Nat.le_of_ble_eq_true rfl)) (by show _ ≤ mr_mxl 157; rw [show mr_mxl 157 = 2 from by decide +kernel]; exact Nat.le_of_ble_eq_true rfl) (by decide +kernel),
   fun v1 v2 x st h Q => gx_one (i := .aload_n 0) (len := 1) (by decide +kernel) rfl,
   fun v0 v1 v2 a st h Q => gx_get (x := 16) (by decide +kernel) (by decide +kernel),
   fun v0 v1 v2 st h Q => gx_one (i := .iconst 0) (len := 1) (by decide +kernel) rfl,
   fun v0 v2 x st h Q => gx_one (i := .iload_n 1) (len := 1) (by decide +kernel) rfl,
   fun v0 v1 v2 x y st h Q => gx_one (i := .iadd) (len := 1) (by decide +kernel) rfl,
   fun v0 v1 v2 x y st h Q => gx_one (i := .dup2) (len := 1) (by decide +kernel) rfl,
   fun v0 v1 v2 a x st h Q => gx_iald (by decide +kernel),
   fun v0 v1 v2 st h Q => gx_one (i := .iconst 1) (len := 1) (by decide +kernel) rfl,
   fun v0 v1 x st h Q => gx_one (i := .iload_n 2) (len := 1) (by decide +kernel) rfl,
   fun v0 v1 v2 x y st h Q => gx_one (i := .ishl) (len := 1) (by decide +kernel) rfl,
   fun v0 v1 v2 x y st h Q => gx_one (i := .ixor) (len := 1) (by decide +kernel) rfl,
   fun v0 v1 v2 a x y st h Q => gx_iast (by decide +kernel),
   fun v1 v2 x st h Q => gx_one (i := .aload_n 0) (len := 1) (by decide +kernel) rfl,
   fun v0 v1 v2 o h Q => gx_virt (x := 192) (n := 0) (by decide +kernel) (by decide +kernel) rfl (Or.inl (Nat.le_of_ble_eq_true rfl)) (by show _ ≤ mr_mxl 148; rw [show mr_mxl 148 = 4 from by decide +kernel]; exact Nat.le_of_ble_eq_true rfl) (by decide +kernel),
   fun v0 v1 v2 x h Q => gx_ret (i := .ireturn) (len := 1) (by decide +kernel) rfl rfl (by simp only [mr_rt, if_pos]; rw [if_pos (Or.inl (by decide +kernel))])⟩
theorem s_mo_ranks_11 (v0 v2 v3 : Value) (x : Int32) (st : List Value) (h : mr_h) (Q : Option Value → mr_h → Prop) : mr_wp 159 11 [v0, .int x, v2, v3] st h Q = mr_wp 159 12 [v0, .int x, v2, v3] (.int x :: st) h Q := gx_one (i := .iload_n 1) (len := 1) (by decide +kernel) rfl
theorem s_mo_ranks_23 (v0 v1 v2 : Value) (x : Int32) (st : List Value) (h : mr_h) (Q : Option Value → mr_h → Prop) : mr_wp 159 23 [v0, v1, v2, .int x] st h Q = mr_wp 159 24 [v0, v1, v2, .int x] (.int x :: st) h Q := gx_one (i := .iload_n 3) (len := 1) (by decide +kernel) rfl
theorem S_mo_ranks_0 : (∀ (v1 v2 v3 : Value) (x : Nat) (st : List Value) (h : mr_h) (Q : Option Value → mr_h → Prop), mr_wp 159 0 [.ref x, v1, v2, v3] st h Q = mr_wp 159 1 [.ref x, v1, v2, v3] (.ref x :: st) h Q) ∧
    (∀ (v0 v1 v2 v3 : Value) (st : List Value) (h : mr_h) (Q : Option Value → mr_h → Prop), mr_wp 159 1 [v0, v1, v2, v3] st h Q = mr_wp 159 2 [v0, v1, v2, v3] (.int (0) :: st) h Q) ∧
    (∀ (v0 v1 v2 v3 : Value) (a : Nat) (x : Int32) (st : List Value) (h : mr_h) (Q : Option Value → mr_h → Prop), mr_wp 159 2 [v0, v1, v2, v3] (.int x :: .ref a :: st) h Q = mr_pf (h.1 a) 11 0 (.int x) (fun c => mr_wp 159 5 [v0, v1, v2, v3] st (mr_up h a c) Q)) ∧
    (∀ (v1 v2 v3 : Value) (x : Nat) (st : List Value) (h : mr_h) (Q : Option Value → mr_h → Prop), mr_wp 159 5 [.ref x, v1, v2, v3] st h Q = mr_wp 159 6 [.ref x, v1, v2, v3] (.ref x :: st) h Q) ∧
    (∀ (v0 v1 v2 v3 : Value) (o : Nat) (h : mr_h) (Q : Option Value → mr_h → Prop), mr_wp 159 6 [v0, v1, v2, v3] [.ref o] h Q = mr_rc (h.1 o) 11 (mr_run 157 [.ref o] h (fun v h' => mr_wp 159 9 [v0, v1, v2, v3] (v.toList ++ []) h' Q))) ∧
    (∀ (v0 v1 v2 v3 : Value) (st : List Value) (h : mr_h) (Q : Option Value → mr_h → Prop), mr_wp 159 9 [v0, v1, v2, v3] st h Q = mr_wp 159 10 [v0, v1, v2, v3] (.int (0) :: st) h Q) ∧
    (∀ (v1 v2 v3 : Value) (w0 : Nat) (x : Int32) (st : List Value) (h : mr_h) (Q : Option Value → mr_h → Prop), mr_wp 159 10 [.ref w0, v1, v2, v3] (.int x :: st) h Q = mr_wp 159 11 [.ref w0, .int x, v2, v3] st h Q) ∧
    (∀ (v1 v2 v3 : Value) (x : Nat) (st : List Value) (h : mr_h) (Q : Option Value → mr_h → Prop), mr_wp 159 12 [.ref x, v1, v2, v3] st h Q = mr_wp 159 13 [.ref x, v1, v2, v3] (.ref x :: st) h Q) ∧
    (∀ (v0 v1 v2 v3 : Value) (a : Nat) (st : List Value) (h : mr_h) (Q : Option Value → mr_h → Prop), mr_wp 159 13 [v0, v1, v2, v3] (.ref a :: st) h Q = mr_gf (h.1 a) 11 8 (fun v => mr_wp 159 16 [v0, v1, v2, v3] (v :: st) h Q)) ∧
    (∀ (v0 v1 v2 v3 : Value) (x : Int32) (y : Int32) (st : List Value) (h : mr_h) (Q : Option Value → mr_h → Prop), mr_wp 159 16 [v0, v1, v2, v3] (.int y :: .int x :: st) h Q = if y ≤ x then mr_wp 159 92 [v0, v1, v2, v3] st h Q else mr_wp 159 19 [v0, v1, v2, v3] st h Q) ∧
    (∀ (v0 v1 v2 v3 : Value) (st : List Value) (h : mr_h) (Q : Option Value → mr_h → Prop), mr_wp 159 19 [v0, v1, v2, v3] st h Q = mr_wp 159 20 [v0, v1, v2, v3] (.int (0) :: st) h Q) ∧
    (∀ (v0 v2 v3 : Value) (w1 : Int32) (x : Int32) (st : List Value) (h : mr_h) (Q : Option Value → mr_h → Prop), mr_wp 159 20 [v0, .int w1, v2, v3] (.int x :: st) h Q = mr_wp 159 21 [v0, .int w1, .int x, v3] st h Q) ∧
    (∀ (v0 v1 v2 v3 : Value) (st : List Value) (h : mr_h) (Q : Option Value → mr_h → Prop), mr_wp 159 21 [v0, v1, v2, v3] st h Q = mr_wp 159 22 [v0, v1, v2, v3] (.int (0) :: st) h Q) ∧
    (∀ (v0 v1 v3 : Value) (w2 : Int32) (x : Int32) (st : List Value) (h : mr_h) (Q : Option Value → mr_h → Prop), mr_wp 159 22 [v0, v1, .int w2, v3] (.int x :: st) h Q = mr_wp 159 23 [v0, v1, .int w2, .int x] st h Q) ∧
    (∀ (v1 v2 v3 : Value) (x : Nat) (st : List Value) (h : mr_h) (Q : Option Value → mr_h → Prop), mr_wp 159 24 [.ref x, v1, v2, v3] st h Q = mr_wp 159 25 [.ref x, v1, v2, v3] (.ref x :: st) h Q) ∧
    (∀ (v0 v1 v2 v3 : Value) (a : Nat) (st : List Value) (h : mr_h) (Q : Option Value → mr_h → Prop), mr_wp 159 25 [v0, v1, v2, v3] (.ref a :: st) h Q = mr_gf (h.1 a) 11 8 (fun v => mr_wp 159 28 [v0, v1, v2, v3] (v :: st) h Q)) ∧
    (∀ (v0 v1 v2 v3 : Value) (x : Int32) (y : Int32) (st : List Value) (h : mr_h) (Q : Option Value → mr_h → Prop), mr_wp 159 28 [v0, v1, v2, v3] (.int y :: .int x :: st) h Q = if y ≤ x then mr_wp 159 76 [v0, v1, v2, v3] st h Q else mr_wp 159 31 [v0, v1, v2, v3] st h Q) ∧
    (∀ (v0 v1 v3 : Value) (x : Int32) (st : List Value) (h : mr_h) (Q : Option Value → mr_h → Prop), mr_wp 159 31 [v0, v1, .int x, v3] st h Q = mr_wp 159 32 [v0, v1, .int x, v3] (.int x :: st) h Q) ∧
    (∀ (v1 v2 v3 : Value) (x : Nat) (st : List Value) (h : mr_h) (Q : Option Value → mr_h → Prop), mr_wp 159 32 [.ref x, v1, v2, v3] st h Q = mr_wp 159 33 [.ref x, v1, v2, v3] (.ref x :: st) h Q) ∧
    (∀ (v0 v1 v2 : Value) (x : Int32) (st : List Value) (h : mr_h) (Q : Option Value → mr_h → Prop), mr_wp 159 33 [v0, v1, v2, .int x] st h Q = mr_wp 159 34 [v0, v1, v2, .int x] (.int x :: st) h Q) ∧
    (∀ (v0 v1 v2 v3 : Value) (a0 : Int32) (o : Nat) (r0 : Value) (h : mr_h) (Q : Option Value → mr_h → Prop), mr_wp 159 34 [v0, v1, v2, v3] [.int a0, .ref o, r0] h Q = mr_rc (h.1 o) 11 (mr_run 160 [.ref o, .int a0] h (fun v h' => mr_wp 159 37 [v0, v1, v2, v3] (v.toList ++ [r0]) h' Q))) ∧
    (∀ (v1 v2 v3 : Value) (x : Nat) (st : List Value) (h : mr_h) (Q : Option Value → mr_h → Prop), mr_wp 159 37 [.ref x, v1, v2, v3] st h Q = mr_wp 159 38 [.ref x, v1, v2, v3] (.ref x :: st) h Q) ∧
    (∀ (v0 v2 v3 : Value) (x : Int32) (st : List Value) (h : mr_h) (Q : Option Value → mr_h → Prop), mr_wp 159 38 [v0, .int x, v2, v3] st h Q = mr_wp 159 39 [v0, .int x, v2, v3] (.int x :: st) h Q) ∧
    (∀ (v0 v1 v2 v3 : Value) (a0 : Int32) (o : Nat) (r0 : Value) (r1 : Value) (h : mr_h) (Q : Option Value → mr_h → Prop), mr_wp 159 39 [v0, v1, v2, v3] [.int a0, .ref o, r0, r1] h Q = mr_rc (h.1 o) 11 (mr_run 160 [.ref o, .int a0] h (fun v h' => mr_wp 159 42 [v0, v1, v2, v3] (v.toList ++ [r0, r1]) h' Q))) ∧
    (∀ (v0 v1 v2 v3 : Value) (x : Int32) (y : Int32) (st : List Value) (h : mr_h) (Q : Option Value → mr_h → Prop), mr_wp 159 42 [v0, v1, v2, v3] (.int y :: .int x :: st) h Q = if y < x then mr_wp 159 63 [v0, v1, v2, v3] st h Q else mr_wp 159 45 [v0, v1, v2, v3] st h Q) ∧
    (∀ (v1 v2 v3 : Value) (x : Nat) (st : List Value) (h : mr_h) (Q : Option Value → mr_h → Prop), mr_wp 159 45 [.ref x, v1, v2, v3] st h Q = mr_wp 159 46 [.ref x, v1, v2, v3] (.ref x :: st) h Q) ∧
    (∀ (v0 v1 v2 : Value) (x : Int32) (st : List Value) (h : mr_h) (Q : Option Value → mr_h → Prop), mr_wp 159 46 [v0, v1, v2, .int x] st h Q = mr_wp 159 47 [v0, v1, v2, .int x] (.int x :: st) h Q) ∧
    (∀ (v0 v1 v2 v3 : Value) (a0 : Int32) (o : Nat) (r0 : Value) (h : mr_h) (Q : Option Value → mr_h → Prop), mr_wp 159 47 [v0, v1, v2, v3] [.int a0, .ref o, r0] h Q = mr_rc (h.1 o) 11 (mr_run 160 [.ref o, .int a0] h (fun v h' => mr_wp 159 50 [v0, v1, v2, v3] (v.toList ++ [r0]) h' Q))) ∧
    (∀ (v1 v2 v3 : Value) (x : Nat) (st : List Value) (h : mr_h) (Q : Option Value → mr_h → Prop), mr_wp 159 50 [.ref x, v1, v2, v3] st h Q = mr_wp 159 51 [.ref x, v1, v2, v3] (.ref x :: st) h Q) ∧
    (∀ (v0 v2 v3 : Value) (x : Int32) (st : List Value) (h : mr_h) (Q : Option Value → mr_h → Prop), mr_wp 159 51 [v0, .int x, v2, v3] st h Q = mr_wp 159 52 [v0, .int x, v2, v3] (.int x :: st) h Q) ∧
    (∀ (v0 v1 v2 v3 : Value) (a0 : Int32) (o : Nat) (r0 : Value) (r1 : Value) (h : mr_h) (Q : Option Value → mr_h → Prop), mr_wp 159 52 [v0, v1, v2, v3] [.int a0, .ref o, r0, r1] h Q = mr_rc (h.1 o) 11 (mr_run 160 [.ref o, .int a0] h (fun v h' => mr_wp 159 55 [v0, v1, v2, v3] (v.toList ++ [r0, r1]) h' Q))) ∧
    (∀ (v0 v1 v2 v3 : Value) (x : Int32) (y : Int32) (st : List Value) (h : mr_h) (Q : Option Value → mr_h → Prop), mr_wp 159 55 [v0, v1, v2, v3] (.int y :: .int x :: st) h Q = if ¬ x = y then mr_wp 159 67 [v0, v1, v2, v3] st h Q else mr_wp 159 58 [v0, v1, v2, v3] st h Q) ∧
    (∀ (v0 v1 v2 : Value) (x : Int32) (st : List Value) (h : mr_h) (Q : Option Value → mr_h → Prop), mr_wp 159 58 [v0, v1, v2, .int x] st h Q = mr_wp 159 59 [v0, v1, v2, .int x] (.int x :: st) h Q) ∧
    (∀ (v0 v2 v3 : Value) (x : Int32) (st : List Value) (h : mr_h) (Q : Option Value → mr_h → Prop), mr_wp 159 59 [v0, .int x, v2, v3] st h Q = mr_wp 159 60 [v0, .int x, v2, v3] (.int x :: st) h Q) ∧
    (∀ (v0 v1 v2 v3 : Value) (x : Int32) (y : Int32) (st : List Value) (h : mr_h) (Q : Option Value → mr_h → Prop), mr_wp 159 60 [v0, v1, v2, v3] (.int y :: .int x :: st) h Q = if y ≤ x then mr_wp 159 67 [v0, v1, v2, v3] st h Q else mr_wp 159 63 [v0, v1, v2, v3] st h Q) ∧
    (∀ (v0 v1 v2 v3 : Value) (st : List Value) (h : mr_h) (Q : Option Value → mr_h → Prop), mr_wp 159 63 [v0, v1, v2, v3] st h Q = mr_wp 159 64 [v0, v1, v2, v3] (.int (1) :: st) h Q) ∧
    (∀ (v0 v1 v2 v3 : Value) (st : List Value) (h : mr_h) (Q : Option Value → mr_h → Prop), mr_wp 159 64 [v0, v1, v2, v3] st h Q = mr_wp 159 68 [v0, v1, v2, v3] st h Q) ∧
    (∀ (v0 v1 v2 v3 : Value) (st : List Value) (h : mr_h) (Q : Option Value → mr_h → Prop), mr_wp 159 67 [v0, v1, v2, v3] st h Q = mr_wp 159 68 [v0, v1, v2, v3] (.int (0) :: st) h Q) ∧
    (∀ (v0 v1 v2 v3 : Value) (x : Int32) (y : Int32) (st : List Value) (h : mr_h) (Q : Option Value → mr_h → Prop), mr_wp 159 68 [v0, v1, v2, v3] (.int y :: .int x :: st) h Q = mr_wp 159 69 [v0, v1, v2, v3] (.int (x + y) :: st) h Q) ∧
    (∀ (v0 v2 v3 : Value) (w1 : Int32) (x : Int32) (st : List Value) (h : mr_h) (Q : Option Value → mr_h → Prop), mr_wp 159 69 [v0, .int w1, v2, v3] (.int x :: st) h Q = mr_wp 159 70 [v0, .int w1, .int x, v3] st h Q) :=
  ⟨fun v1 v2 v3 x st h Q => gx_one (i := .aload_n 0) (len := 1) (by decide +kernel) rfl,
   fun v0 v1 v2 v3 st h Q => gx_one (i := .iconst 0) (len := 1) (by decide +kernel) rfl,
   fun v0 v1 v2 v3 a x st h Q => gx_put (x := 65) (by decide +kernel) (by decide +kernel) ⟨rfl, Or.inl rfl⟩,
   fun v1 v2 v3 x st h Q => gx_one (i := .aload_n 0) (len := 1) (by decide +kernel) rfl,
   fun v0 v1 v2 v3 o h Q => gx_virt (x := 204) (n := 0) (by decide +kernel) (by decide +kernel) rfl (Or.inl (Nat.le_of_ble_eq_true rfl)) (by show _ ≤ mr_mxl 157; rw [show mr_mxl 157 = 2 from by decide +kernel]; exact Nat.le_of_ble_eq_true rfl) (by decide +kernel),
   fun v0 v1 v2 v3 st h Q => gx_one (i := .iconst 0) (len := 1) (by decide +kernel) rfl,
   fun v1 v2 v3 w0 x st h Q => gx_one (i := .istore_n 1) (len := 1) (by decide +kernel) rfl,
   fun v1 v2 v3 x st h Q => gx_one (i := .aload_n 0) (len := 1) (by decide +kernel) rfl,
   fun v0 v1 v2 v3 a st h Q => gx_get (x := 123) (by decide +kernel) (by decide +kernel),
   fun v0 v1 v2 v3 x y st h Q => gx_br (i := .if_icmp .ge 76) (len := 3) (c := .ge) (by decide +kernel) rfl rfl,
   fun v0 v1 v2 v3 st h Q => gx_one (i := .iconst 0) (len := 1) (by decide +kernel) rfl,
   fun v0 v2 v3 w1 x st h Q => gx_one (i := .istore_n 2) (len := 1) (by decide +kernel) rfl,
   fun v0 v1 v2 v3 st h Q => gx_one (i := .iconst 0) (len := 1) (by decide +kernel) rfl,
   fun v0 v1 v3 w2 x st h Q => gx_one (i := .istore_n 3) (len := 1) (by decide +kernel) rfl,
   fun v1 v2 v3 x st h Q => gx_one (i := .aload_n 0) (len := 1) (by decide +kernel) rfl,
   fun v0 v1 v2 v3 a st h Q => gx_get (x := 123) (by decide +kernel) (by decide +kernel),
   fun v0 v1 v2 v3 x y st h Q => gx_br (i := .if_icmp .ge 48) (len := 3) (c := .ge) (by decide +kernel) rfl rfl,
   fun v0 v1 v3 x st h Q => gx_one (i := .iload_n 2) (len := 1) (by decide +kernel) rfl,
   fun v1 v2 v3 x st h Q => gx_one (i := .aload_n 0) (len := 1) (by decide +kernel) rfl,
   fun v0 v1 v2 x st h Q => gx_one (i := .iload_n 3) (len := 1) (by decide +kernel) rfl,
   fun v0 v1 v2 v3 a0 o r0 h Q => gx_virt (x := 207) (n := 1) (by decide +kernel) (by decide +kernel) rfl (Or.inl (Nat.le_of_ble_eq_true rfl)) (by show _ ≤ mr_mxl 160; rw [show mr_mxl 160 = 4 from by decide +kernel]; exact Nat.le_of_ble_eq_true rfl) (by decide +kernel),
   fun v1 v2 v3 x st h Q => gx_one (i := .aload_n 0) (len := 1) (by decide +kernel) rfl,
   fun v0 v2 v3 x st h Q => gx_one (i := .iload_n 1) (len := 1) (by decide +kernel) rfl,
   fun v0 v1 v2 v3 a0 o r0 r1 h Q => gx_virt (x := 207) (n := 1) (by decide +kernel) (by decide +kernel) rfl (Or.inl (Nat.le_of_ble_eq_true rfl)) (by show _ ≤ mr_mxl 160; rw [show mr_mxl 160 = 4 from by decide +kernel]; exact Nat.le_of_ble_eq_true rfl) (by decide +kernel),
   fun v0 v1 v2 v3 x y st h Q => gx_br (i := .if_icmp .gt 21) (len := 3) (c := .gt) (by decide +kernel) rfl rfl,
   fun v1 v2 v3 x st h Q => gx_one (i := .aload_n 0) (len := 1) (by decide +kernel) rfl,
   fun v0 v1 v2 x st h Q => gx_one (i := .iload_n 3) (len := 1) (by decide +kernel) rfl,
   fun v0 v1 v2 v3 a0 o r0 h Q => gx_virt (x := 207) (n := 1) (by decide +kernel) (by decide +kernel) rfl (Or.inl (Nat.le_of_ble_eq_true rfl)) (by show _ ≤ mr_mxl 160; rw [show mr_mxl 160 = 4 from by decide +kernel]; exact Nat.le_of_ble_eq_true rfl) (by decide +kernel),
   fun v1 v2 v3 x st h Q => gx_one (i := .aload_n 0) (len := 1) (by decide +kernel) rfl,
   fun v0 v2 v3 x st h Q => gx_one (i := .iload_n 1) (len := 1) (by decide +kernel) rfl,
   fun v0 v1 v2 v3 a0 o r0 r1 h Q => gx_virt (x := 207) (n := 1) (by decide +kernel) (by decide +kernel) rfl (Or.inl (Nat.le_of_ble_eq_true rfl)) (by show _ ≤ mr_mxl 160; rw [show mr_mxl 160 = 4 from by decide +kernel]; exact Nat.le_of_ble_eq_true rfl) (by decide +kernel),
   fun v0 v1 v2 v3 x y st h Q => gx_br (i := .if_icmp .ne 12) (len := 3) (c := .ne) (by decide +kernel) rfl rfl,
   fun v0 v1 v2 x st h Q => gx_one (i := .iload_n 3) (len := 1) (by decide +kernel) rfl,
   fun v0 v2 v3 x st h Q => gx_one (i := .iload_n 1) (len := 1) (by decide +kernel) rfl,
   fun v0 v1 v2 v3 x y st h Q => gx_br (i := .if_icmp .ge 7) (len := 3) (c := .ge) (by decide +kernel) rfl rfl,
   fun v0 v1 v2 v3 st h Q => gx_one (i := .iconst 1) (len := 1) (by decide +kernel) rfl,
   fun v0 v1 v2 v3 st h Q => gx_one (i := .goto 4) (len := 3) (by decide +kernel) rfl,
   fun v0 v1 v2 v3 st h Q => gx_one (i := .iconst 0) (len := 1) (by decide +kernel) rfl,
   fun v0 v1 v2 v3 x y st h Q => gx_one (i := .iadd) (len := 1) (by decide +kernel) rfl,
   fun v0 v2 v3 w1 x st h Q => gx_one (i := .istore_n 2) (len := 1) (by decide +kernel) rfl⟩
theorem S_mo_ranks_1 : (∀ (v0 v1 : Value) (x : Int32) (w2 : Int32) (st : List Value) (h : mr_h) (Q : Option Value → mr_h → Prop), mr_wp 159 70 [v0, v1, .int w2, .int x] st h Q = mr_wp 159 73 [v0, v1, .int w2, .int (x + (1))] st h Q) ∧
    (∀ (v0 v1 v2 v3 : Value) (st : List Value) (h : mr_h) (Q : Option Value → mr_h → Prop), mr_wp 159 73 [v0, v1, v2, v3] st h Q = mr_wp 159 23 [v0, v1, v2, v3] st h Q) ∧
    (∀ (v1 v2 v3 : Value) (x : Nat) (st : List Value) (h : mr_h) (Q : Option Value → mr_h → Prop), mr_wp 159 76 [.ref x, v1, v2, v3] st h Q = mr_wp 159 77 [.ref x, v1, v2, v3] (.ref x :: st) h Q) ∧
    (∀ (v0 v1 v2 v3 : Value) (a : Nat) (st : List Value) (h : mr_h) (Q : Option Value → mr_h → Prop), mr_wp 159 77 [v0, v1, v2, v3] (.ref a :: st) h Q = mr_gf (h.1 a) 11 12 (fun v => mr_wp 159 80 [v0, v1, v2, v3] (v :: st) h Q)) ∧
    (∀ (v0 v1 v2 v3 : Value) (st : List Value) (h : mr_h) (Q : Option Value → mr_h → Prop), mr_wp 159 80 [v0, v1, v2, v3] st h Q = mr_wp 159 82 [v0, v1, v2, v3] (.int (12) :: st) h Q) ∧
    (∀ (v0 v2 v3 : Value) (x : Int32) (st : List Value) (h : mr_h) (Q : Option Value → mr_h → Prop), mr_wp 159 82 [v0, .int x, v2, v3] st h Q = mr_wp 159 83 [v0, .int x, v2, v3] (.int x :: st) h Q) ∧
    (∀ (v0 v1 v2 v3 : Value) (x : Int32) (y : Int32) (st : List Value) (h : mr_h) (Q : Option Value → mr_h → Prop), mr_wp 159 83 [v0, v1, v2, v3] (.int y :: .int x :: st) h Q = mr_wp 159 84 [v0, v1, v2, v3] (.int (x + y) :: st) h Q) ∧
    (∀ (v0 v1 v3 : Value) (x : Int32) (st : List Value) (h : mr_h) (Q : Option Value → mr_h → Prop), mr_wp 159 84 [v0, v1, .int x, v3] st h Q = mr_wp 159 85 [v0, v1, .int x, v3] (.int x :: st) h Q) ∧
    (∀ (v0 v1 v2 v3 : Value) (a : Nat) (x : Int32) (y : Int32) (st : List Value) (h : mr_h) (Q : Option Value → mr_h → Prop), mr_wp 159 85 [v0, v1, v2, v3] (.int y :: .int x :: .ref a :: st) h Q = mr_si (h.1 a) x y (fun c => mr_wp 159 86 [v0, v1, v2, v3] st (mr_up h a c) Q)) ∧
    (∀ (v2 v3 : Value) (x : Int32) (w0 : Nat) (st : List Value) (h : mr_h) (Q : Option Value → mr_h → Prop), mr_wp 159 86 [.ref w0, .int x, v2, v3] st h Q = mr_wp 159 89 [.ref w0, .int (x + (1)), v2, v3] st h Q) ∧
    (∀ (v0 v1 v2 v3 : Value) (st : List Value) (h : mr_h) (Q : Option Value → mr_h → Prop), mr_wp 159 89 [v0, v1, v2, v3] st h Q = mr_wp 159 11 [v0, v1, v2, v3] st h Q) ∧
    (∀ (v1 v2 v3 : Value) (x : Nat) (st : List Value) (h : mr_h) (Q : Option Value → mr_h → Prop), mr_wp 159 92 [.ref x, v1, v2, v3] st h Q = mr_wp 159 93 [.ref x, v1, v2, v3] (.ref x :: st) h Q) ∧
    (∀ (v0 v1 v2 v3 : Value) (o : Nat) (h : mr_h) (Q : Option Value → mr_h → Prop), mr_wp 159 93 [v0, v1, v2, v3] [.ref o] h Q = mr_rc (h.1 o) 11 (mr_run 148 [.ref o] h (fun v h' => mr_wp 159 96 [v0, v1, v2, v3] (v.toList ++ []) h' Q))) ∧
    (∀ (v0 v1 v2 v3 : Value) (x : Int32) (h : mr_h) (Q : Option Value → mr_h → Prop), mr_wp 159 96 [v0, v1, v2, v3] [.int x] h Q = Q (some (.int x)) h) :=
  ⟨fun v0 v1 x w2 st h Q => gx_one (i := .iinc 3 1) (len := 3) (by decide +kernel) rfl,
   fun v0 v1 v2 v3 st h Q => gx_one (i := .goto (-50)) (len := 3) (by decide +kernel) rfl,
   fun v1 v2 v3 x st h Q => gx_one (i := .aload_n 0) (len := 1) (by decide +kernel) rfl,
   fun v0 v1 v2 v3 a st h Q => gx_get (x := 16) (by decide +kernel) (by decide +kernel),
   fun v0 v1 v2 v3 st h Q => gx_one (i := .bipush 12) (len := 2) (by decide +kernel) rfl,
   fun v0 v2 v3 x st h Q => gx_one (i := .iload_n 1) (len := 1) (by decide +kernel) rfl,
   fun v0 v1 v2 v3 x y st h Q => gx_one (i := .iadd) (len := 1) (by decide +kernel) rfl,
   fun v0 v1 v3 x st h Q => gx_one (i := .iload_n 2) (len := 1) (by decide +kernel) rfl,
   fun v0 v1 v2 v3 a x y st h Q => gx_iast (by decide +kernel),
   fun v2 v3 x w0 st h Q => gx_one (i := .iinc 1 1) (len := 3) (by decide +kernel) rfl,
   fun v0 v1 v2 v3 st h Q => gx_one (i := .goto (-78)) (len := 3) (by decide +kernel) rfl,
   fun v1 v2 v3 x st h Q => gx_one (i := .aload_n 0) (len := 1) (by decide +kernel) rfl,
   fun v0 v1 v2 v3 o h Q => gx_virt (x := 192) (n := 0) (by decide +kernel) (by decide +kernel) rfl (Or.inl (Nat.le_of_ble_eq_true rfl)) (by show _ ≤ mr_mxl 148; rw [show mr_mxl 148 = 4 from by decide +kernel]; exact Nat.le_of_ble_eq_true rfl) (by decide +kernel),
   fun v0 v1 v2 v3 x h Q => gx_ret (i := .ireturn) (len := 1) (by decide +kernel) rfl rfl (by simp only [mr_rt, if_pos]; rw [if_pos (Or.inl (by decide +kernel))])⟩

theorem s_mo_weight_4 (v0 v1 v2 : Value) (x : Int32) (st : List Value) (h : mr_h) (Q : Option Value → mr_h → Prop) : mr_wp 160 4 [v0, v1, v2, .int x] st h Q = mr_wp 160 5 [v0, v1, v2, .int x] (.int x :: st) h Q := gx_one (i := .iload_n 3) (len := 1) (by decide +kernel) rfl
theorem S_mo_weight : (∀ (v0 v1 v2 v3 : Value) (st : List Value) (h : mr_h) (Q : Option Value → mr_h → Prop), mr_wp 160 0 [v0, v1, v2, v3] st h Q = mr_wp 160 1 [v0, v1, v2, v3] (.int (0) :: st) h Q) ∧
    (∀ (v0 v2 v3 : Value) (w1 : Int32) (x : Int32) (st : List Value) (h : mr_h) (Q : Option Value → mr_h → Prop), mr_wp 160 1 [v0, .int w1, v2, v3] (.int x :: st) h Q = mr_wp 160 2 [v0, .int w1, .int x, v3] st h Q) ∧
    (∀ (v0 v1 v2 v3 : Value) (st : List Value) (h : mr_h) (Q : Option Value → mr_h → Prop), mr_wp 160 2 [v0, v1, v2, v3] st h Q = mr_wp 160 3 [v0, v1, v2, v3] (.int (0) :: st) h Q) ∧
    (∀ (v0 v1 v3 : Value) (w2 : Int32) (x : Int32) (st : List Value) (h : mr_h) (Q : Option Value → mr_h → Prop), mr_wp 160 3 [v0, v1, .int w2, v3] (.int x :: st) h Q = mr_wp 160 4 [v0, v1, .int w2, .int x] st h Q) ∧
    (∀ (v1 v2 v3 : Value) (x : Nat) (st : List Value) (h : mr_h) (Q : Option Value → mr_h → Prop), mr_wp 160 5 [.ref x, v1, v2, v3] st h Q = mr_wp 160 6 [.ref x, v1, v2, v3] (.ref x :: st) h Q) ∧
    (∀ (v0 v1 v2 v3 : Value) (a : Nat) (st : List Value) (h : mr_h) (Q : Option Value → mr_h → Prop), mr_wp 160 6 [v0, v1, v2, v3] (.ref a :: st) h Q = mr_gf (h.1 a) 11 8 (fun v => mr_wp 160 9 [v0, v1, v2, v3] (v :: st) h Q)) ∧
    (∀ (v0 v1 v2 v3 : Value) (x : Int32) (y : Int32) (st : List Value) (h : mr_h) (Q : Option Value → mr_h → Prop), mr_wp 160 9 [v0, v1, v2, v3] (.int y :: .int x :: st) h Q = if y ≤ x then mr_wp 160 33 [v0, v1, v2, v3] st h Q else mr_wp 160 12 [v0, v1, v2, v3] st h Q) ∧
    (∀ (v0 v1 v3 : Value) (x : Int32) (st : List Value) (h : mr_h) (Q : Option Value → mr_h → Prop), mr_wp 160 12 [v0, v1, .int x, v3] st h Q = mr_wp 160 13 [v0, v1, .int x, v3] (.int x :: st) h Q) ∧
    (∀ (v1 v2 v3 : Value) (x : Nat) (st : List Value) (h : mr_h) (Q : Option Value → mr_h → Prop), mr_wp 160 13 [.ref x, v1, v2, v3] st h Q = mr_wp 160 14 [.ref x, v1, v2, v3] (.ref x :: st) h Q) ∧
    (∀ (v0 v1 v2 v3 : Value) (a : Nat) (st : List Value) (h : mr_h) (Q : Option Value → mr_h → Prop), mr_wp 160 14 [v0, v1, v2, v3] (.ref a :: st) h Q = mr_gf (h.1 a) 11 12 (fun v => mr_wp 160 17 [v0, v1, v2, v3] (v :: st) h Q)) ∧
    (∀ (v0 v1 v2 v3 : Value) (st : List Value) (h : mr_h) (Q : Option Value → mr_h → Prop), mr_wp 160 17 [v0, v1, v2, v3] st h Q = mr_wp 160 18 [v0, v1, v2, v3] (.int (0) :: st) h Q) ∧
    (∀ (v0 v1 v2 : Value) (x : Int32) (st : List Value) (h : mr_h) (Q : Option Value → mr_h → Prop), mr_wp 160 18 [v0, v1, v2, .int x] st h Q = mr_wp 160 19 [v0, v1, v2, .int x] (.int x :: st) h Q) ∧
    (∀ (v0 v1 v2 v3 : Value) (x : Int32) (y : Int32) (st : List Value) (h : mr_h) (Q : Option Value → mr_h → Prop), mr_wp 160 19 [v0, v1, v2, v3] (.int y :: .int x :: st) h Q = mr_wp 160 20 [v0, v1, v2, v3] (.int (x + y) :: st) h Q) ∧
    (∀ (v0 v1 v2 v3 : Value) (a : Nat) (x : Int32) (st : List Value) (h : mr_h) (Q : Option Value → mr_h → Prop), mr_wp 160 20 [v0, v1, v2, v3] (.int x :: .ref a :: st) h Q = mr_ai (h.1 a) x (fun v => mr_wp 160 21 [v0, v1, v2, v3] (.int v :: st) h Q)) ∧
    (∀ (v0 v2 v3 : Value) (x : Int32) (st : List Value) (h : mr_h) (Q : Option Value → mr_h → Prop), mr_wp 160 21 [v0, .int x, v2, v3] st h Q = mr_wp 160 22 [v0, .int x, v2, v3] (.int x :: st) h Q) ∧
    (∀ (v0 v1 v2 v3 : Value) (x : Int32) (y : Int32) (st : List Value) (h : mr_h) (Q : Option Value → mr_h → Prop), mr_wp 160 22 [v0, v1, v2, v3] (.int y :: .int x :: st) h Q = mr_wp 160 23 [v0, v1, v2, v3] (.int (x >>> (y &&& 31)) :: st) h Q) ∧
    (∀ (v0 v1 v2 v3 : Value) (st : List Value) (h : mr_h) (Q : Option Value → mr_h → Prop), mr_wp 160 23 [v0, v1, v2, v3] st h Q = mr_wp 160 24 [v0, v1, v2, v3] (.int (1) :: st) h Q) ∧
    (∀ (v0 v1 v2 v3 : Value) (x : Int32) (y : Int32) (st : List Value) (h : mr_h) (Q : Option Value → mr_h → Prop), mr_wp 160 24 [v0, v1, v2, v3] (.int y :: .int x :: st) h Q = mr_wp 160 25 [v0, v1, v2, v3] (.int (x &&& y) :: st) h Q) ∧
    (∀ (v0 v1 v2 v3 : Value) (x : Int32) (y : Int32) (st : List Value) (h : mr_h) (Q : Option Value → mr_h → Prop), mr_wp 160 25 [v0, v1, v2, v3] (.int y :: .int x :: st) h Q = mr_wp 160 26 [v0, v1, v2, v3] (.int (x + y) :: st) h Q) ∧
    (∀ (v0 v2 v3 : Value) (w1 : Int32) (x : Int32) (st : List Value) (h : mr_h) (Q : Option Value → mr_h → Prop), mr_wp 160 26 [v0, .int w1, v2, v3] (.int x :: st) h Q = mr_wp 160 27 [v0, .int w1, .int x, v3] st h Q) ∧
    (∀ (v0 v1 : Value) (x : Int32) (w2 : Int32) (st : List Value) (h : mr_h) (Q : Option Value → mr_h → Prop), mr_wp 160 27 [v0, v1, .int w2, .int x] st h Q = mr_wp 160 30 [v0, v1, .int w2, .int (x + (1))] st h Q) ∧
    (∀ (v0 v1 v2 v3 : Value) (st : List Value) (h : mr_h) (Q : Option Value → mr_h → Prop), mr_wp 160 30 [v0, v1, v2, v3] st h Q = mr_wp 160 4 [v0, v1, v2, v3] st h Q) ∧
    (∀ (v1 v2 v3 : Value) (x : Nat) (st : List Value) (h : mr_h) (Q : Option Value → mr_h → Prop), mr_wp 160 33 [.ref x, v1, v2, v3] st h Q = mr_wp 160 34 [.ref x, v1, v2, v3] (.ref x :: st) h Q) ∧
    (∀ (v0 v1 v2 v3 : Value) (a : Nat) (st : List Value) (h : mr_h) (Q : Option Value → mr_h → Prop), mr_wp 160 34 [v0, v1, v2, v3] (.ref a :: st) h Q = mr_gf (h.1 a) 11 12 (fun v => mr_wp 160 37 [v0, v1, v2, v3] (v :: st) h Q)) ∧
    (∀ (v0 v1 v2 v3 : Value) (st : List Value) (h : mr_h) (Q : Option Value → mr_h → Prop), mr_wp 160 37 [v0, v1, v2, v3] st h Q = mr_wp 160 38 [v0, v1, v2, v3] (.int (0) :: st) h Q) ∧
    (∀ (v0 v2 v3 : Value) (x : Int32) (st : List Value) (h : mr_h) (Q : Option Value → mr_h → Prop), mr_wp 160 38 [v0, .int x, v2, v3] st h Q = mr_wp 160 39 [v0, .int x, v2, v3] (.int x :: st) h Q) ∧
    (∀ (v0 v1 v2 v3 : Value) (x : Int32) (y : Int32) (st : List Value) (h : mr_h) (Q : Option Value → mr_h → Prop), mr_wp 160 39 [v0, v1, v2, v3] (.int y :: .int x :: st) h Q = mr_wp 160 40 [v0, v1, v2, v3] (.int (x + y) :: st) h Q) ∧
    (∀ (v0 v1 v2 v3 : Value) (a : Nat) (x : Int32) (st : List Value) (h : mr_h) (Q : Option Value → mr_h → Prop), mr_wp 160 40 [v0, v1, v2, v3] (.int x :: .ref a :: st) h Q = mr_ai (h.1 a) x (fun v => mr_wp 160 41 [v0, v1, v2, v3] (.int v :: st) h Q)) ∧
    (∀ (v0 v1 v2 v3 : Value) (a0 : Int32) (h : mr_h) (Q : Option Value → mr_h → Prop), mr_wp 160 41 [v0, v1, v2, v3] [.int a0] h Q = mr_run 147 [.int a0] h (fun v h' => mr_wp 160 44 [v0, v1, v2, v3] (v.toList ++ []) h' Q)) ∧
    (∀ (v0 v1 v2 v3 : Value) (st : List Value) (h : mr_h) (Q : Option Value → mr_h → Prop), mr_wp 160 44 [v0, v1, v2, v3] st h Q = mr_wp 160 45 [v0, v1, v2, v3] (.int (1) :: st) h Q) ∧
    (∀ (v0 v1 v2 v3 : Value) (x : Int32) (y : Int32) (st : List Value) (h : mr_h) (Q : Option Value → mr_h → Prop), mr_wp 160 45 [v0, v1, v2, v3] (.int y :: .int x :: st) h Q = mr_wp 160 46 [v0, v1, v2, v3] (.int (x + y) :: st) h Q) ∧
    (∀ (v0 v1 v3 : Value) (x : Int32) (st : List Value) (h : mr_h) (Q : Option Value → mr_h → Prop), mr_wp 160 46 [v0, v1, .int x, v3] st h Q = mr_wp 160 47 [v0, v1, .int x, v3] (.int x :: st) h Q) ∧
    (∀ (v0 v1 v2 v3 : Value) (st : List Value) (h : mr_h) (Q : Option Value → mr_h → Prop), mr_wp 160 47 [v0, v1, v2, v3] st h Q = mr_wp 160 48 [v0, v1, v2, v3] (.int (1) :: st) h Q) ∧
    (∀ (v0 v1 v2 v3 : Value) (x : Int32) (y : Int32) (st : List Value) (h : mr_h) (Q : Option Value → mr_h → Prop), mr_wp 160 48 [v0, v1, v2, v3] (.int y :: .int x :: st) h Q = mr_wp 160 49 [v0, v1, v2, v3] (.int (x + y) :: st) h Q) ∧
    (∀ (v0 v1 v2 v3 : Value) (x : Int32) (y : Int32) (st : List Value) (h : mr_h) (Q : Option Value → mr_h → Prop), mr_wp 160 49 [v0, v1, v2, v3] (.int y :: .int x :: st) h Q = mr_wp 160 50 [v0, v1, v2, v3] (.int (x * y) :: st) h Q) ∧
    (∀ (v0 v1 v2 v3 : Value) (x : Int32) (h : mr_h) (Q : Option Value → mr_h → Prop), mr_wp 160 50 [v0, v1, v2, v3] [.int x] h Q = Q (some (.int x)) h) :=
  ⟨fun v0 v1 v2 v3 st h Q => gx_one (i := .iconst 0) (len := 1) (by decide +kernel) rfl,
   fun v0 v2 v3 w1 x st h Q => gx_one (i := .istore_n 2) (len := 1) (by decide +kernel) rfl,
   fun v0 v1 v2 v3 st h Q => gx_one (i := .iconst 0) (len := 1) (by decide +kernel) rfl,
   fun v0 v1 v3 w2 x st h Q => gx_one (i := .istore_n 3) (len := 1) (by decide +kernel) rfl,
   fun v1 v2 v3 x st h Q => gx_one (i := .aload_n 0) (len := 1) (by decide +kernel) rfl,
   fun v0 v1 v2 v3 a st h Q => gx_get (x := 123) (by decide +kernel) (by decide +kernel),
   fun v0 v1 v2 v3 x y st h Q => gx_br (i := .if_icmp .ge 24) (len := 3) (c := .ge) (by decide +kernel) rfl rfl,
   fun v0 v1 v3 x st h Q => gx_one (i := .iload_n 2) (len := 1) (by decide +kernel) rfl,
   fun v1 v2 v3 x st h Q => gx_one (i := .aload_n 0) (len := 1) (by decide +kernel) rfl,
   fun v0 v1 v2 v3 a st h Q => gx_get (x := 16) (by decide +kernel) (by decide +kernel),
   fun v0 v1 v2 v3 st h Q => gx_one (i := .iconst 0) (len := 1) (by decide +kernel) rfl,
   fun v0 v1 v2 x st h Q => gx_one (i := .iload_n 3) (len := 1) (by decide +kernel) rfl,
   fun v0 v1 v2 v3 x y st h Q => gx_one (i := .iadd) (len := 1) (by decide +kernel) rfl,
   fun v0 v1 v2 v3 a x st h Q => gx_iald (by decide +kernel),
   fun v0 v2 v3 x st h Q => gx_one (i := .iload_n 1) (len := 1) (by decide +kernel) rfl,
   fun v0 v1 v2 v3 x y st h Q => gx_one (i := .ishr) (len := 1) (by decide +kernel) rfl,
   fun v0 v1 v2 v3 st h Q => gx_one (i := .iconst 1) (len := 1) (by decide +kernel) rfl,
   fun v0 v1 v2 v3 x y st h Q => gx_one (i := .iand) (len := 1) (by decide +kernel) rfl,
   fun v0 v1 v2 v3 x y st h Q => gx_one (i := .iadd) (len := 1) (by decide +kernel) rfl,
   fun v0 v2 v3 w1 x st h Q => gx_one (i := .istore_n 2) (len := 1) (by decide +kernel) rfl,
   fun v0 v1 x w2 st h Q => gx_one (i := .iinc 3 1) (len := 3) (by decide +kernel) rfl,
   fun v0 v1 v2 v3 st h Q => gx_one (i := .goto (-26)) (len := 3) (by decide +kernel) rfl,
   fun v1 v2 v3 x st h Q => gx_one (i := .aload_n 0) (len := 1) (by decide +kernel) rfl,
   fun v0 v1 v2 v3 a st h Q => gx_get (x := 16) (by decide +kernel) (by decide +kernel),
   fun v0 v1 v2 v3 st h Q => gx_one (i := .iconst 0) (len := 1) (by decide +kernel) rfl,
   fun v0 v2 v3 x st h Q => gx_one (i := .iload_n 1) (len := 1) (by decide +kernel) rfl,
   fun v0 v1 v2 v3 x y st h Q => gx_one (i := .iadd) (len := 1) (by decide +kernel) rfl,
   fun v0 v1 v2 v3 a x st h Q => gx_iald (by decide +kernel),
   fun v0 v1 v2 v3 a0 h Q => gx_stat (x := 136) (t := 147) (n := 1) (by decide +kernel) (by decide +kernel) (by decide) (by decide +kernel) rfl (Or.inl (Nat.le_of_ble_eq_true rfl)) (by show _ ≤ mr_mxl 147; rw [show mr_mxl 147 = 3 from by decide +kernel]; exact Nat.le_of_ble_eq_true rfl),
   fun v0 v1 v2 v3 st h Q => gx_one (i := .iconst 1) (len := 1) (by decide +kernel) rfl,
   fun v0 v1 v2 v3 x y st h Q => gx_one (i := .iadd) (len := 1) (by decide +kernel) rfl,
   fun v0 v1 v3 x st h Q => gx_one (i := .iload_n 2) (len := 1) (by decide +kernel) rfl,
   fun v0 v1 v2 v3 st h Q => gx_one (i := .iconst 1) (len := 1) (by decide +kernel) rfl,
   fun v0 v1 v2 v3 x y st h Q => gx_one (i := .iadd) (len := 1) (by decide +kernel) rfl,
   fun v0 v1 v2 v3 x y st h Q => gx_one (i := .imul) (len := 1) (by decide +kernel) rfl,
   fun v0 v1 v2 v3 x h Q => gx_ret (i := .ireturn) (len := 1) (by decide +kernel) rfl rfl (by simp only [mr_rt, if_pos]; rw [if_pos (Or.inl (by decide +kernel))])⟩
theorem s_mo_undo_27 (v0 : Value) (x : Int32) (st : List Value) (h : mr_h) (Q : Option Value → mr_h → Prop) : mr_wp 161 27 [v0, .int x] st h Q = mr_wp 161 28 [v0, .int x] (.int x :: st) h Q := gx_one (i := .iload_n 1) (len := 1) (by decide +kernel) rfl
theorem S_mo_undo : (∀ (v1 : Value) (x : Nat) (st : List Value) (h : mr_h) (Q : Option Value → mr_h → Prop), mr_wp 161 0 [.ref x, v1] st h Q = mr_wp 161 1 [.ref x, v1] (.ref x :: st) h Q) ∧
    (∀ (v0 v1 : Value) (st : List Value) (h : mr_h) (Q : Option Value → mr_h → Prop), mr_wp 161 1 [v0, v1] st h Q = mr_wp 161 2 [v0, v1] (.int (0) :: st) h Q) ∧
    (∀ (v0 v1 : Value) (a : Nat) (x : Int32) (st : List Value) (h : mr_h) (Q : Option Value → mr_h → Prop), mr_wp 161 2 [v0, v1] (.int x :: .ref a :: st) h Q = mr_pf (h.1 a) 11 0 (.int x) (fun c => mr_wp 161 5 [v0, v1] st (mr_up h a c) Q)) ∧
    (∀ (v1 : Value) (x : Nat) (st : List Value) (h : mr_h) (Q : Option Value → mr_h → Prop), mr_wp 161 5 [.ref x, v1] st h Q = mr_wp 161 6 [.ref x, v1] (.ref x :: st) h Q) ∧
    (∀ (v0 v1 : Value) (a : Nat) (st : List Value) (h : mr_h) (Q : Option Value → mr_h → Prop), mr_wp 161 6 [v0, v1] (.ref a :: st) h Q = mr_gf (h.1 a) 11 17 (fun v => mr_wp 161 9 [v0, v1] (v :: st) h Q)) ∧
    (∀ (v0 v1 : Value) (x : Int32) (st : List Value) (h : mr_h) (Q : Option Value → mr_h → Prop), mr_wp 161 9 [v0, v1] (.int x :: st) h Q = if ¬ x = 0 then mr_wp 161 15 [v0, v1] st h Q else mr_wp 161 12 [v0, v1] st h Q) ∧
    (∀ (v0 v1 : Value) (st : List Value) (h : mr_h) (Q : Option Value → mr_h → Prop), mr_wp 161 12 [v0, v1] st h Q = mr_wp 161 14 [v0, v1] (.int (-2) :: st) h Q) ∧
    (∀ (v0 v1 : Value) (x : Int32) (h : mr_h) (Q : Option Value → mr_h → Prop), mr_wp 161 14 [v0, v1] [.int x] h Q = Q (some (.int x)) h) ∧
    (∀ (v1 : Value) (x : Nat) (st : List Value) (h : mr_h) (Q : Option Value → mr_h → Prop), mr_wp 161 15 [.ref x, v1] st h Q = mr_wp 161 16 [.ref x, v1] (.ref x :: st) h Q) ∧
    (∀ (v0 v1 : Value) (x : Nat) (st : List Value) (h : mr_h) (Q : Option Value → mr_h → Prop), mr_wp 161 16 [v0, v1] (.ref x :: st) h Q = mr_wp 161 17 [v0, v1] (.ref x :: .ref x :: st) h Q) ∧
    (∀ (v0 v1 : Value) (a : Nat) (st : List Value) (h : mr_h) (Q : Option Value → mr_h → Prop), mr_wp 161 17 [v0, v1] (.ref a :: st) h Q = mr_gf (h.1 a) 11 17 (fun v => mr_wp 161 20 [v0, v1] (v :: st) h Q)) ∧
    (∀ (v0 v1 : Value) (st : List Value) (h : mr_h) (Q : Option Value → mr_h → Prop), mr_wp 161 20 [v0, v1] st h Q = mr_wp 161 21 [v0, v1] (.int (1) :: st) h Q) ∧
    (∀ (v0 v1 : Value) (x : Int32) (y : Int32) (st : List Value) (h : mr_h) (Q : Option Value → mr_h → Prop), mr_wp 161 21 [v0, v1] (.int y :: .int x :: st) h Q = mr_wp 161 22 [v0, v1] (.int (x - y) :: st) h Q) ∧
    (∀ (v0 v1 : Value) (a : Nat) (x : Int32) (st : List Value) (h : mr_h) (Q : Option Value → mr_h → Prop), mr_wp 161 22 [v0, v1] (.int x :: .ref a :: st) h Q = mr_pf (h.1 a) 11 17 (.int x) (fun c => mr_wp 161 25 [v0, v1] st (mr_up h a c) Q)) ∧
    (∀ (v0 v1 : Value) (st : List Value) (h : mr_h) (Q : Option Value → mr_h → Prop), mr_wp 161 25 [v0, v1] st h Q = mr_wp 161 26 [v0, v1] (.int (0) :: st) h Q) ∧
    (∀ (v1 : Value) (w0 : Nat) (x : Int32) (st : List Value) (h : mr_h) (Q : Option Value → mr_h → Prop), mr_wp 161 26 [.ref w0, v1] (.int x :: st) h Q = mr_wp 161 27 [.ref w0, .int x] st h Q) ∧
    (∀ (v0 v1 : Value) (st : List Value) (h : mr_h) (Q : Option Value → mr_h → Prop), mr_wp 161 28 [v0, v1] st h Q = mr_wp 161 30 [v0, v1] (.int (24) :: st) h Q) ∧
    (∀ (v0 v1 : Value) (x : Int32) (y : Int32) (st : List Value) (h : mr_h) (Q : Option Value → mr_h → Prop), mr_wp 161 30 [v0, v1] (.int y :: .int x :: st) h Q = if y ≤ x then mr_wp 161 59 [v0, v1] st h Q else mr_wp 161 33 [v0, v1] st h Q) ∧
    (∀ (v1 : Value) (x : Nat) (st : List Value) (h : mr_h) (Q : Option Value → mr_h → Prop), mr_wp 161 33 [.ref x, v1] st h Q = mr_wp 161 34 [.ref x, v1] (.ref x :: st) h Q) ∧
    (∀ (v0 v1 : Value) (a : Nat) (st : List Value) (h : mr_h) (Q : Option Value → mr_h → Prop), mr_wp 161 34 [v0, v1] (.ref a :: st) h Q = mr_gf (h.1 a) 11 12 (fun v => mr_wp 161 37 [v0, v1] (v :: st) h Q)) ∧
    (∀ (v0 : Value) (x : Int32) (st : List Value) (h : mr_h) (Q : Option Value → mr_h → Prop), mr_wp 161 37 [v0, .int x] st h Q = mr_wp 161 38 [v0, .int x] (.int x :: st) h Q) ∧
    (∀ (v1 : Value) (x : Nat) (st : List Value) (h : mr_h) (Q : Option Value → mr_h → Prop), mr_wp 161 38 [.ref x, v1] st h Q = mr_wp 161 39 [.ref x, v1] (.ref x :: st) h Q) ∧
    (∀ (v0 v1 : Value) (a : Nat) (st : List Value) (h : mr_h) (Q : Option Value → mr_h → Prop), mr_wp 161 39 [v0, v1] (.ref a :: st) h Q = mr_gf (h.1 a) 11 16 (fun v => mr_wp 161 42 [v0, v1] (v :: st) h Q)) ∧
    (∀ (v0 v1 : Value) (st : List Value) (h : mr_h) (Q : Option Value → mr_h → Prop), mr_wp 161 42 [v0, v1] st h Q = mr_wp 161 44 [v0, v1] (.int (24) :: st) h Q) ∧
    (∀ (v1 : Value) (x : Nat) (st : List Value) (h : mr_h) (Q : Option Value → mr_h → Prop), mr_wp 161 44 [.ref x, v1] st h Q = mr_wp 161 45 [.ref x, v1] (.ref x :: st) h Q) ∧
    (∀ (v0 v1 : Value) (a : Nat) (st : List Value) (h : mr_h) (Q : Option Value → mr_h → Prop), mr_wp 161 45 [v0, v1] (.ref a :: st) h Q = mr_gf (h.1 a) 11 17 (fun v => mr_wp 161 48 [v0, v1] (v :: st) h Q)) ∧
    (∀ (v0 v1 : Value) (x : Int32) (y : Int32) (st : List Value) (h : mr_h) (Q : Option Value → mr_h → Prop), mr_wp 161 48 [v0, v1] (.int y :: .int x :: st) h Q = mr_wp 161 49 [v0, v1] (.int (x * y) :: st) h Q) ∧
    (∀ (v0 : Value) (x : Int32) (st : List Value) (h : mr_h) (Q : Option Value → mr_h → Prop), mr_wp 161 49 [v0, .int x] st h Q = mr_wp 161 50 [v0, .int x] (.int x :: st) h Q) ∧
    (∀ (v0 v1 : Value) (x : Int32) (y : Int32) (st : List Value) (h : mr_h) (Q : Option Value → mr_h → Prop), mr_wp 161 50 [v0, v1] (.int y :: .int x :: st) h Q = mr_wp 161 51 [v0, v1] (.int (x + y) :: st) h Q) ∧
    (∀ (v0 v1 : Value) (a : Nat) (x : Int32) (st : List Value) (h : mr_h) (Q : Option Value → mr_h → Prop), mr_wp 161 51 [v0, v1] (.int x :: .ref a :: st) h Q = mr_ai (h.1 a) x (fun v => mr_wp 161 52 [v0, v1] (.int v :: st) h Q)) ∧
    (∀ (v0 v1 : Value) (a : Nat) (x : Int32) (y : Int32) (st : List Value) (h : mr_h) (Q : Option Value → mr_h → Prop), mr_wp 161 52 [v0, v1] (.int y :: .int x :: .ref a :: st) h Q = mr_si (h.1 a) x y (fun c => mr_wp 161 53 [v0, v1] st (mr_up h a c) Q)) ∧
    (∀ (x : Int32) (w0 : Nat) (st : List Value) (h : mr_h) (Q : Option Value → mr_h → Prop), mr_wp 161 53 [.ref w0, .int x] st h Q = mr_wp 161 56 [.ref w0, .int (x + (1))] st h Q) ∧
    (∀ (v0 v1 : Value) (st : List Value) (h : mr_h) (Q : Option Value → mr_h → Prop), mr_wp 161 56 [v0, v1] st h Q = mr_wp 161 27 [v0, v1] st h Q) ∧
    (∀ (v1 : Value) (x : Nat) (st : List Value) (h : mr_h) (Q : Option Value → mr_h → Prop), mr_wp 161 59 [.ref x, v1] st h Q = mr_wp 161 60 [.ref x, v1] (.ref x :: st) h Q) ∧
    (∀ (v0 v1 : Value) (a : Nat) (st : List Value) (h : mr_h) (Q : Option Value → mr_h → Prop), mr_wp 161 60 [v0, v1] (.ref a :: st) h Q = mr_gf (h.1 a) 11 17 (fun v => mr_wp 161 63 [v0, v1] (v :: st) h Q)) ∧
    (∀ (v0 v1 : Value) (x : Int32) (h : mr_h) (Q : Option Value → mr_h → Prop), mr_wp 161 63 [v0, v1] [.int x] h Q = Q (some (.int x)) h) :=
  ⟨fun v1 x st h Q => gx_one (i := .aload_n 0) (len := 1) (by decide +kernel) rfl,
   fun v0 v1 st h Q => gx_one (i := .iconst 0) (len := 1) (by decide +kernel) rfl,
   fun v0 v1 a x st h Q => gx_put (x := 65) (by decide +kernel) (by decide +kernel) ⟨rfl, Or.inl rfl⟩,
   fun v1 x st h Q => gx_one (i := .aload_n 0) (len := 1) (by decide +kernel) rfl,
   fun v0 v1 a st h Q => gx_get (x := 129) (by decide +kernel) (by decide +kernel),
   fun v0 v1 x st h Q => gx_br (i := .ifCond .ne 6) (len := 3) (c := .ne) (by decide +kernel) rfl rfl,
   fun v0 v1 st h Q => gx_one (i := .bipush (-2)) (len := 2) (by decide +kernel) rfl,
   fun v0 v1 x h Q => gx_ret (i := .ireturn) (len := 1) (by decide +kernel) rfl rfl (by simp only [mr_rt, if_pos]; rw [if_pos (Or.inl (by decide +kernel))]),
   fun v1 x st h Q => gx_one (i := .aload_n 0) (len := 1) (by decide +kernel) rfl,
   fun v0 v1 x st h Q => gx_one (i := .dup) (len := 1) (by decide +kernel) rfl,
   fun v0 v1 a st h Q => gx_get (x := 129) (by decide +kernel) (by decide +kernel),
   fun v0 v1 st h Q => gx_one (i := .iconst 1) (len := 1) (by decide +kernel) rfl,
   fun v0 v1 x y st h Q => gx_one (i := .isub) (len := 1) (by decide +kernel) rfl,
   fun v0 v1 a x st h Q => gx_put (x := 129) (by decide +kernel) (by decide +kernel) ⟨rfl, Or.inl rfl⟩,
   fun v0 v1 st h Q => gx_one (i := .iconst 0) (len := 1) (by decide +kernel) rfl,
   fun v1 w0 x st h Q => gx_one (i := .istore_n 1) (len := 1) (by decide +kernel) rfl,
   fun v0 v1 st h Q => gx_one (i := .bipush 24) (len := 2) (by decide +kernel) rfl,
   fun v0 v1 x y st h Q => gx_br (i := .if_icmp .ge 29) (len := 3) (c := .ge) (by decide +kernel) rfl rfl,
   fun v1 x st h Q => gx_one (i := .aload_n 0) (len := 1) (by decide +kernel) rfl,
   fun v0 v1 a st h Q => gx_get (x := 16) (by decide +kernel) (by decide +kernel),
   fun v0 x st h Q => gx_one (i := .iload_n 1) (len := 1) (by decide +kernel) rfl,
   fun v1 x st h Q => gx_one (i := .aload_n 0) (len := 1) (by decide +kernel) rfl,
   fun v0 v1 a st h Q => gx_get (x := 29) (by decide +kernel) (by decide +kernel),
   fun v0 v1 st h Q => gx_one (i := .bipush 24) (len := 2) (by decide +kernel) rfl,
   fun v1 x st h Q => gx_one (i := .aload_n 0) (len := 1) (by decide +kernel) rfl,
   fun v0 v1 a st h Q => gx_get (x := 129) (by decide +kernel) (by decide +kernel),
   fun v0 v1 x y st h Q => gx_one (i := .imul) (len := 1) (by decide +kernel) rfl,
   fun v0 x st h Q => gx_one (i := .iload_n 1) (len := 1) (by decide +kernel) rfl,
   fun v0 v1 x y st h Q => gx_one (i := .iadd) (len := 1) (by decide +kernel) rfl,
   fun v0 v1 a x st h Q => gx_iald (by decide +kernel),
   fun v0 v1 a x y st h Q => gx_iast (by decide +kernel),
   fun x w0 st h Q => gx_one (i := .iinc 1 1) (len := 3) (by decide +kernel) rfl,
   fun v0 v1 st h Q => gx_one (i := .goto (-29)) (len := 3) (by decide +kernel) rfl,
   fun v1 x st h Q => gx_one (i := .aload_n 0) (len := 1) (by decide +kernel) rfl,
   fun v0 v1 a st h Q => gx_get (x := 129) (by decide +kernel) (by decide +kernel),
   fun v0 v1 x h Q => gx_ret (i := .ireturn) (len := 1) (by decide +kernel) rfl rfl (by simp only [mr_rt, if_pos]; rw [if_pos (Or.inl (by decide +kernel))])⟩
theorem S_mo_comes : (∀ (v1 v2 : Value) (x : Nat) (st : List Value) (h : mr_h) (Q : Option Value → mr_h → Prop), mr_wp 162 0 [.ref x, v1, v2] st h Q = mr_wp 162 1 [.ref x, v1, v2] (.ref x :: st) h Q) ∧
    (∀ (v0 v1 v2 : Value) (st : List Value) (h : mr_h) (Q : Option Value → mr_h → Prop), mr_wp 162 1 [v0, v1, v2] st h Q = mr_wp 162 2 [v0, v1, v2] (.int (0) :: st) h Q) ∧
    (∀ (v0 v1 v2 : Value) (a : Nat) (x : Int32) (st : List Value) (h : mr_h) (Q : Option Value → mr_h → Prop), mr_wp 162 2 [v0, v1, v2] (.int x :: .ref a :: st) h Q = mr_pf (h.1 a) 11 0 (.int x) (fun c => mr_wp 162 5 [v0, v1, v2] st (mr_up h a c) Q)) ∧
    (∀ (v1 v2 : Value) (x : Nat) (st : List Value) (h : mr_h) (Q : Option Value → mr_h → Prop), mr_wp 162 5 [.ref x, v1, v2] st h Q = mr_wp 162 6 [.ref x, v1, v2] (.ref x :: st) h Q) ∧
    (∀ (v0 v2 : Value) (x : Int32) (st : List Value) (h : mr_h) (Q : Option Value → mr_h → Prop), mr_wp 162 6 [v0, .int x, v2] st h Q = mr_wp 162 7 [v0, .int x, v2] (.int x :: st) h Q) ∧
    (∀ (v0 v1 v2 : Value) (a0 : Int32) (o : Nat) (h : mr_h) (Q : Option Value → mr_h → Prop), mr_wp 162 7 [v0, v1, v2] [.int a0, .ref o] h Q = mr_rc (h.1 o) 11 (mr_run 132 [.ref o, .int a0] h (fun v h' => mr_wp 162 10 [v0, v1, v2] (v.toList ++ []) h' Q))) ∧
    (∀ (v0 v1 v2 : Value) (x : Int32) (st : List Value) (h : mr_h) (Q : Option Value → mr_h → Prop), mr_wp 162 10 [v0, v1, v2] (.int x :: st) h Q = if x = 0 then mr_wp 162 21 [v0, v1, v2] st h Q else mr_wp 162 13 [v0, v1, v2] st h Q) ∧
    (∀ (v1 v2 : Value) (x : Nat) (st : List Value) (h : mr_h) (Q : Option Value → mr_h → Prop), mr_wp 162 13 [.ref x, v1, v2] st h Q = mr_wp 162 14 [.ref x, v1, v2] (.ref x :: st) h Q) ∧
    (∀ (v0 v1 : Value) (x : Int32) (st : List Value) (h : mr_h) (Q : Option Value → mr_h → Prop), mr_wp 162 14 [v0, v1, .int x] st h Q = mr_wp 162 15 [v0, v1, .int x] (.int x :: st) h Q) ∧
    (∀ (v0 v1 v2 : Value) (a0 : Int32) (o : Nat) (h : mr_h) (Q : Option Value → mr_h → Prop), mr_wp 162 15 [v0, v1, v2] [.int a0, .ref o] h Q = mr_rc (h.1 o) 11 (mr_run 132 [.ref o, .int a0] h (fun v h' => mr_wp 162 18 [v0, v1, v2] (v.toList ++ []) h' Q))) ∧
    (∀ (v0 v1 v2 : Value) (x : Int32) (st : List Value) (h : mr_h) (Q : Option Value → mr_h → Prop), mr_wp 162 18 [v0, v1, v2] (.int x :: st) h Q = if ¬ x = 0 then mr_wp 162 23 [v0, v1, v2] st h Q else mr_wp 162 21 [v0, v1, v2] st h Q) ∧
    (∀ (v0 v1 v2 : Value) (st : List Value) (h : mr_h) (Q : Option Value → mr_h → Prop), mr_wp 162 21 [v0, v1, v2] st h Q = mr_wp 162 22 [v0, v1, v2] (.int (-1) :: st) h Q) ∧
    (∀ (v0 v1 v2 : Value) (x : Int32) (h : mr_h) (Q : Option Value → mr_h → Prop), mr_wp 162 22 [v0, v1, v2] [.int x] h Q = Q (some (.int x)) h) ∧
    (∀ (v1 v2 : Value) (x : Nat) (st : List Value) (h : mr_h) (Q : Option Value → mr_h → Prop), mr_wp 162 23 [.ref x, v1, v2] st h Q = mr_wp 162 24 [.ref x, v1, v2] (.ref x :: st) h Q) ∧
    (∀ (v1 v2 : Value) (x : Nat) (st : List Value) (h : mr_h) (Q : Option Value → mr_h → Prop), mr_wp 162 24 [.ref x, v1, v2] st h Q = mr_wp 162 25 [.ref x, v1, v2] (.ref x :: st) h Q) ∧
    (∀ (v0 v1 v2 : Value) (a : Nat) (st : List Value) (h : mr_h) (Q : Option Value → mr_h → Prop), mr_wp 162 25 [v0, v1, v2] (.ref a :: st) h Q = mr_gf (h.1 a) 11 12 (fun v => mr_wp 162 28 [v0, v1, v2] (v :: st) h Q)) ∧
    (∀ (v1 v2 : Value) (x : Nat) (st : List Value) (h : mr_h) (Q : Option Value → mr_h → Prop), mr_wp 162 28 [.ref x, v1, v2] st h Q = mr_wp 162 29 [.ref x, v1, v2] (.ref x :: st) h Q) ∧
    (∀ (v0 v1 v2 : Value) (a : Nat) (st : List Value) (h : mr_h) (Q : Option Value → mr_h → Prop), mr_wp 162 29 [v0, v1, v2] (.ref a :: st) h Q = mr_gf (h.1 a) 11 22 (fun v => mr_wp 162 32 [v0, v1, v2] (v :: st) h Q)) ∧
    (∀ (v0 v1 v2 : Value) (a0 : Nat) (a1 : Nat) (o : Nat) (h : mr_h) (Q : Option Value → mr_h → Prop), mr_wp 162 32 [v0, v1, v2] [.ref a1, .ref a0, .ref o] h Q = mr_rc (h.1 o) 11 (mr_run 133 [.ref o, .ref a0, .ref a1] h (fun v h' => mr_wp 162 35 [v0, v1, v2] (v.toList ++ []) h' Q))) ∧
    (∀ (v1 v2 : Value) (x : Nat) (st : List Value) (h : mr_h) (Q : Option Value → mr_h → Prop), mr_wp 162 35 [.ref x, v1, v2] st h Q = mr_wp 162 36 [.ref x, v1, v2] (.ref x :: st) h Q) ∧
    (∀ (v0 v1 v2 : Value) (a : Nat) (st : List Value) (h : mr_h) (Q : Option Value → mr_h → Prop), mr_wp 162 36 [v0, v1, v2] (.ref a :: st) h Q = mr_gf (h.1 a) 11 22 (fun v => mr_wp 162 39 [v0, v1, v2] (v :: st) h Q)) ∧
    (∀ (v0 v2 : Value) (x : Int32) (st : List Value) (h : mr_h) (Q : Option Value → mr_h → Prop), mr_wp 162 39 [v0, .int x, v2] st h Q = mr_wp 162 40 [v0, .int x, v2] (.int x :: st) h Q) ∧
    (∀ (v0 v1 v2 : Value) (a : Nat) (x : Int32) (st : List Value) (h : mr_h) (Q : Option Value → mr_h → Prop), mr_wp 162 40 [v0, v1, v2] (.int x :: .ref a :: st) h Q = mr_ai (h.1 a) x (fun v => mr_wp 162 41 [v0, v1, v2] (.int v :: st) h Q)) ∧
    (∀ (v0 v1 : Value) (x : Int32) (st : List Value) (h : mr_h) (Q : Option Value → mr_h → Prop), mr_wp 162 41 [v0, v1, .int x] st h Q = mr_wp 162 42 [v0, v1, .int x] (.int x :: st) h Q) ∧
    (∀ (v0 v1 v2 : Value) (x : Int32) (y : Int32) (st : List Value) (h : mr_h) (Q : Option Value → mr_h → Prop), mr_wp 162 42 [v0, v1, v2] (.int y :: .int x :: st) h Q = mr_wp 162 43 [v0, v1, v2] (.int (x >>> (y &&& 31)) :: st) h Q) ∧
    (∀ (v0 v1 v2 : Value) (st : List Value) (h : mr_h) (Q : Option Value → mr_h → Prop), mr_wp 162 43 [v0, v1, v2] st h Q = mr_wp 162 44 [v0, v1, v2] (.int (1) :: st) h Q) ∧
    (∀ (v0 v1 v2 : Value) (x : Int32) (y : Int32) (st : List Value) (h : mr_h) (Q : Option Value → mr_h → Prop), mr_wp 162 44 [v0, v1, v2] (.int y :: .int x :: st) h Q = mr_wp 162 45 [v0, v1, v2] (.int (x &&& y) :: st) h Q) ∧
    (∀ (v0 v1 v2 : Value) (x : Int32) (h : mr_h) (Q : Option Value → mr_h → Prop), mr_wp 162 45 [v0, v1, v2] [.int x] h Q = Q (some (.int x)) h) :=
  ⟨fun v1 v2 x st h Q => gx_one (i := .aload_n 0) (len := 1) (by decide +kernel) rfl,
   fun v0 v1 v2 st h Q => gx_one (i := .iconst 0) (len := 1) (by decide +kernel) rfl,
   fun v0 v1 v2 a x st h Q => gx_put (x := 65) (by decide +kernel) (by decide +kernel) ⟨rfl, Or.inl rfl⟩,
   fun v1 v2 x st h Q => gx_one (i := .aload_n 0) (len := 1) (by decide +kernel) rfl,
   fun v0 v2 x st h Q => gx_one (i := .iload_n 1) (len := 1) (by decide +kernel) rfl,
   fun v0 v1 v2 a0 o h Q => gx_virt (x := 132) (n := 1) (by decide +kernel) (by decide +kernel) rfl (Or.inl (Nat.le_of_ble_eq_true rfl)) (by show _ ≤ mr_mxl 132; rw [show mr_mxl 132 = 2 from by decide +kernel]; exact Nat.le_of_ble_eq_true rfl) (by decide +kernel),
   fun v0 v1 v2 x st h Q => gx_br (i := .ifCond .eq 11) (len := 3) (c := .eq) (by decide +kernel) rfl rfl,
   fun v1 v2 x st h Q => gx_one (i := .aload_n 0) (len := 1) (by decide +kernel) rfl,
   fun v0 v1 x st h Q => gx_one (i := .iload_n 2) (len := 1) (by decide +kernel) rfl,
   fun v0 v1 v2 a0 o h Q => gx_virt (x := 132) (n := 1) (by decide +kernel) (by decide +kernel) rfl (Or.inl (Nat.le_of_ble_eq_true rfl)) (by show _ ≤ mr_mxl 132; rw [show mr_mxl 132 = 2 from by decide +kernel]; exact Nat.le_of_ble_eq_true rfl) (by decide +kernel),
   fun v0 v1 v2 x st h Q => gx_br (i := .ifCond .ne 5) (len := 3) (c := .ne) (by decide +kernel) rfl rfl,
   fun v0 v1 v2 st h Q => gx_one (i := .iconst (-1)) (len := 1) (by decide +kernel) rfl,
   fun v0 v1 v2 x h Q => gx_ret (i := .ireturn) (len := 1) (by decide +kernel) rfl rfl (by simp only [mr_rt, if_pos]; rw [if_pos (Or.inl (by decide +kernel))]),
   fun v1 v2 x st h Q => gx_one (i := .aload_n 0) (len := 1) (by decide +kernel) rfl,
   fun v1 v2 x st h Q => gx_one (i := .aload_n 0) (len := 1) (by decide +kernel) rfl,
   fun v0 v1 v2 a st h Q => gx_get (x := 16) (by decide +kernel) (by decide +kernel),
   fun v1 v2 x st h Q => gx_one (i := .aload_n 0) (len := 1) (by decide +kernel) rfl,
   fun v0 v1 v2 a st h Q => gx_get (x := 41) (by decide +kernel) (by decide +kernel),
   fun v0 v1 v2 a0 a1 o h Q => gx_virt (x := 158) (n := 2) (by decide +kernel) (by decide +kernel) rfl (Or.inl (Nat.le_of_ble_eq_true rfl)) (by show _ ≤ mr_mxl 133; rw [show mr_mxl 133 = 5 from by decide +kernel]; exact Nat.le_of_ble_eq_true rfl) (by decide +kernel),
   fun v1 v2 x st h Q => gx_one (i := .aload_n 0) (len := 1) (by decide +kernel) rfl,
   fun v0 v1 v2 a st h Q => gx_get (x := 41) (by decide +kernel) (by decide +kernel),
   fun v0 v2 x st h Q => gx_one (i := .iload_n 1) (len := 1) (by decide +kernel) rfl,
   fun v0 v1 v2 a x st h Q => gx_iald (by decide +kernel),
   fun v0 v1 x st h Q => gx_one (i := .iload_n 2) (len := 1) (by decide +kernel) rfl,
   fun v0 v1 v2 x y st h Q => gx_one (i := .ishr) (len := 1) (by decide +kernel) rfl,
   fun v0 v1 v2 st h Q => gx_one (i := .iconst 1) (len := 1) (by decide +kernel) rfl,
   fun v0 v1 v2 x y st h Q => gx_one (i := .iand) (len := 1) (by decide +kernel) rfl,
   fun v0 v1 v2 x h Q => gx_ret (i := .ireturn) (len := 1) (by decide +kernel) rfl rfl (by simp only [mr_rt, if_pos]; rw [if_pos (Or.inl (by decide +kernel))])⟩
theorem s_mo_hub_62 (v0 v1 v2 v3 v4 v5 : Value) (x : Int32) (st : List Value) (h : mr_h) (Q : Option Value → mr_h → Prop) : mr_wp 163 62 [v0, v1, v2, v3, v4, v5, .int x] st h Q = mr_wp 163 64 [v0, v1, v2, v3, v4, v5, .int x] (.int x :: st) h Q := gx_one (i := .iload 6) (len := 2) (by decide +kernel) rfl
theorem S_mo_hub_0 : (∀ (v1 v2 v3 v4 v5 v6 : Value) (x : Nat) (st : List Value) (h : mr_h) (Q : Option Value → mr_h → Prop), mr_wp 163 0 [.ref x, v1, v2, v3, v4, v5, v6] st h Q = mr_wp 163 1 [.ref x, v1, v2, v3, v4, v5, v6] (.ref x :: st) h Q) ∧
    (∀ (v0 v1 v2 v3 v4 v5 v6 : Value) (st : List Value) (h : mr_h) (Q : Option Value → mr_h → Prop), mr_wp 163 1 [v0, v1, v2, v3, v4, v5, v6] st h Q = mr_wp 163 2 [v0, v1, v2, v3, v4, v5, v6] (.int (0) :: st) h Q) ∧
    (∀ (v0 v1 v2 v3 v4 v5 v6 : Value) (a : Nat) (x : Int32) (st : List Value) (h : mr_h) (Q : Option Value → mr_h → Prop), mr_wp 163 2 [v0, v1, v2, v3, v4, v5, v6] (.int x :: .ref a :: st) h Q = mr_pf (h.1 a) 11 0 (.int x) (fun c => mr_wp 163 5 [v0, v1, v2, v3, v4, v5, v6] st (mr_up h a c) Q)) ∧
    (∀ (v1 v2 v3 v4 v5 v6 : Value) (x : Nat) (st : List Value) (h : mr_h) (Q : Option Value → mr_h → Prop), mr_wp 163 5 [.ref x, v1, v2, v3, v4, v5, v6] st h Q = mr_wp 163 6 [.ref x, v1, v2, v3, v4, v5, v6] (.ref x :: st) h Q) ∧
    (∀ (v0 v2 v3 v4 v5 v6 : Value) (x : Int32) (st : List Value) (h : mr_h) (Q : Option Value → mr_h → Prop), mr_wp 163 6 [v0, .int x, v2, v3, v4, v5, v6] st h Q = mr_wp 163 7 [v0, .int x, v2, v3, v4, v5, v6] (.int x :: st) h Q) ∧
    (∀ (v0 v1 v2 v3 v4 v5 v6 : Value) (a0 : Int32) (o : Nat) (h : mr_h) (Q : Option Value → mr_h → Prop), mr_wp 163 7 [v0, v1, v2, v3, v4, v5, v6] [.int a0, .ref o] h Q = mr_rc (h.1 o) 11 (mr_run 132 [.ref o, .int a0] h (fun v h' => mr_wp 163 10 [v0, v1, v2, v3, v4, v5, v6] (v.toList ++ []) h' Q))) ∧
    (∀ (v0 v1 v2 v3 v4 v5 v6 : Value) (x : Int32) (st : List Value) (h : mr_h) (Q : Option Value → mr_h → Prop), mr_wp 163 10 [v0, v1, v2, v3, v4, v5, v6] (.int x :: st) h Q = if x = 0 then mr_wp 163 21 [v0, v1, v2, v3, v4, v5, v6] st h Q else mr_wp 163 13 [v0, v1, v2, v3, v4, v5, v6] st h Q) ∧
    (∀ (v1 v2 v3 v4 v5 v6 : Value) (x : Nat) (st : List Value) (h : mr_h) (Q : Option Value → mr_h → Prop), mr_wp 163 13 [.ref x, v1, v2, v3, v4, v5, v6] st h Q = mr_wp 163 14 [.ref x, v1, v2, v3, v4, v5, v6] (.ref x :: st) h Q) ∧
    (∀ (v0 v1 v3 v4 v5 v6 : Value) (x : Int32) (st : List Value) (h : mr_h) (Q : Option Value → mr_h → Prop), mr_wp 163 14 [v0, v1, .int x, v3, v4, v5, v6] st h Q = mr_wp 163 15 [v0, v1, .int x, v3, v4, v5, v6] (.int x :: st) h Q) ∧
    (∀ (v0 v1 v2 v3 v4 v5 v6 : Value) (a0 : Int32) (o : Nat) (h : mr_h) (Q : Option Value → mr_h → Prop), mr_wp 163 15 [v0, v1, v2, v3, v4, v5, v6] [.int a0, .ref o] h Q = mr_rc (h.1 o) 11 (mr_run 132 [.ref o, .int a0] h (fun v h' => mr_wp 163 18 [v0, v1, v2, v3, v4, v5, v6] (v.toList ++ []) h' Q))) ∧
    (∀ (v0 v1 v2 v3 v4 v5 v6 : Value) (x : Int32) (st : List Value) (h : mr_h) (Q : Option Value → mr_h → Prop), mr_wp 163 18 [v0, v1, v2, v3, v4, v5, v6] (.int x :: st) h Q = if ¬ x = 0 then mr_wp 163 23 [v0, v1, v2, v3, v4, v5, v6] st h Q else mr_wp 163 21 [v0, v1, v2, v3, v4, v5, v6] st h Q) ∧
    (∀ (v0 v1 v2 v3 v4 v5 v6 : Value) (st : List Value) (h : mr_h) (Q : Option Value → mr_h → Prop), mr_wp 163 21 [v0, v1, v2, v3, v4, v5, v6] st h Q = mr_wp 163 22 [v0, v1, v2, v3, v4, v5, v6] (.int (-1) :: st) h Q) ∧
    (∀ (v0 v1 v2 v3 v4 v5 v6 : Value) (x : Int32) (h : mr_h) (Q : Option Value → mr_h → Prop), mr_wp 163 22 [v0, v1, v2, v3, v4, v5, v6] [.int x] h Q = Q (some (.int x)) h) ∧
    (∀ (v1 v2 v3 v4 v5 v6 : Value) (x : Nat) (st : List Value) (h : mr_h) (Q : Option Value → mr_h → Prop), mr_wp 163 23 [.ref x, v1, v2, v3, v4, v5, v6] st h Q = mr_wp 163 24 [.ref x, v1, v2, v3, v4, v5, v6] (.ref x :: st) h Q) ∧
    (∀ (v1 v2 v3 v4 v5 v6 : Value) (x : Nat) (st : List Value) (h : mr_h) (Q : Option Value → mr_h → Prop), mr_wp 163 24 [.ref x, v1, v2, v3, v4, v5, v6] st h Q = mr_wp 163 25 [.ref x, v1, v2, v3, v4, v5, v6] (.ref x :: st) h Q) ∧
    (∀ (v0 v1 v2 v3 v4 v5 v6 : Value) (a : Nat) (st : List Value) (h : mr_h) (Q : Option Value → mr_h → Prop), mr_wp 163 25 [v0, v1, v2, v3, v4, v5, v6] (.ref a :: st) h Q = mr_gf (h.1 a) 11 12 (fun v => mr_wp 163 28 [v0, v1, v2, v3, v4, v5, v6] (v :: st) h Q)) ∧
    (∀ (v1 v2 v3 v4 v5 v6 : Value) (x : Nat) (st : List Value) (h : mr_h) (Q : Option Value → mr_h → Prop), mr_wp 163 28 [.ref x, v1, v2, v3, v4, v5, v6] st h Q = mr_wp 163 29 [.ref x, v1, v2, v3, v4, v5, v6] (.ref x :: st) h Q) ∧
    (∀ (v0 v1 v2 v3 v4 v5 v6 : Value) (a : Nat) (st : List Value) (h : mr_h) (Q : Option Value → mr_h → Prop), mr_wp 163 29 [v0, v1, v2, v3, v4, v5, v6] (.ref a :: st) h Q = mr_gf (h.1 a) 11 22 (fun v => mr_wp 163 32 [v0, v1, v2, v3, v4, v5, v6] (v :: st) h Q)) ∧
    (∀ (v0 v1 v2 v3 v4 v5 v6 : Value) (a0 : Nat) (a1 : Nat) (o : Nat) (h : mr_h) (Q : Option Value → mr_h → Prop), mr_wp 163 32 [v0, v1, v2, v3, v4, v5, v6] [.ref a1, .ref a0, .ref o] h Q = mr_rc (h.1 o) 11 (mr_run 133 [.ref o, .ref a0, .ref a1] h (fun v h' => mr_wp 163 35 [v0, v1, v2, v3, v4, v5, v6] (v.toList ++ []) h' Q))) ∧
    (∀ (v1 v2 v3 v4 v5 v6 : Value) (x : Nat) (st : List Value) (h : mr_h) (Q : Option Value → mr_h → Prop), mr_wp 163 35 [.ref x, v1, v2, v3, v4, v5, v6] st h Q = mr_wp 163 36 [.ref x, v1, v2, v3, v4, v5, v6] (.ref x :: st) h Q) ∧
    (∀ (v0 v1 v2 v3 v4 v5 v6 : Value) (o : Nat) (h : mr_h) (Q : Option Value → mr_h → Prop), mr_wp 163 36 [v0, v1, v2, v3, v4, v5, v6] [.ref o] h Q = mr_rc (h.1 o) 11 (mr_run 138 [.ref o] h (fun v h' => mr_wp 163 39 [v0, v1, v2, v3, v4, v5, v6] (v.toList ++ []) h' Q))) ∧
    (∀ (v0 v1 v3 v4 v5 v6 : Value) (w2 : Int32) (x : Int32) (st : List Value) (h : mr_h) (Q : Option Value → mr_h → Prop), mr_wp 163 39 [v0, v1, .int w2, v3, v4, v5, v6] (.int x :: st) h Q = mr_wp 163 40 [v0, v1, .int w2, .int x, v4, v5, v6] st h Q) ∧
    (∀ (v1 v2 v3 v4 v5 v6 : Value) (x : Nat) (st : List Value) (h : mr_h) (Q : Option Value → mr_h → Prop), mr_wp 163 40 [.ref x, v1, v2, v3, v4, v5, v6] st h Q = mr_wp 163 41 [.ref x, v1, v2, v3, v4, v5, v6] (.ref x :: st) h Q) ∧
    (∀ (v0 v2 v3 v4 v5 v6 : Value) (x : Int32) (st : List Value) (h : mr_h) (Q : Option Value → mr_h → Prop), mr_wp 163 41 [v0, .int x, v2, v3, v4, v5, v6] st h Q = mr_wp 163 42 [v0, .int x, v2, v3, v4, v5, v6] (.int x :: st) h Q) ∧
    (∀ (v0 v1 v2 v4 v5 v6 : Value) (x : Int32) (st : List Value) (h : mr_h) (Q : Option Value → mr_h → Prop), mr_wp 163 42 [v0, v1, v2, .int x, v4, v5, v6] st h Q = mr_wp 163 43 [v0, v1, v2, .int x, v4, v5, v6] (.int x :: st) h Q) ∧
    (∀ (v0 v1 v2 v3 v4 v5 v6 : Value) (a0 : Int32) (a1 : Int32) (o : Nat) (h : mr_h) (Q : Option Value → mr_h → Prop), mr_wp 163 43 [v0, v1, v2, v3, v4, v5, v6] [.int a1, .int a0, .ref o] h Q = mr_rc (h.1 o) 11 (mr_run 142 [.ref o, .int a0, .int a1] h (fun v h' => mr_wp 163 46 [v0, v1, v2, v3, v4, v5, v6] (v.toList ++ []) h' Q))) ∧
    (∀ (v1 v2 v3 v4 v5 v6 : Value) (x : Nat) (st : List Value) (h : mr_h) (Q : Option Value → mr_h → Prop), mr_wp 163 46 [.ref x, v1, v2, v3, v4, v5, v6] st h Q = mr_wp 163 47 [.ref x, v1, v2, v3, v4, v5, v6] (.ref x :: st) h Q) ∧
    (∀ (v0 v1 v3 v4 v5 v6 : Value) (x : Int32) (st : List Value) (h : mr_h) (Q : Option Value → mr_h → Prop), mr_wp 163 47 [v0, v1, .int x, v3, v4, v5, v6] st h Q = mr_wp 163 48 [v0, v1, .int x, v3, v4, v5, v6] (.int x :: st) h Q) ∧
    (∀ (v0 v1 v2 v4 v5 v6 : Value) (x : Int32) (st : List Value) (h : mr_h) (Q : Option Value → mr_h → Prop), mr_wp 163 48 [v0, v1, v2, .int x, v4, v5, v6] st h Q = mr_wp 163 49 [v0, v1, v2, .int x, v4, v5, v6] (.int x :: st) h Q) ∧
    (∀ (v0 v1 v2 v3 v4 v5 v6 : Value) (a0 : Int32) (a1 : Int32) (o : Nat) (r0 : Value) (h : mr_h) (Q : Option Value → mr_h → Prop), mr_wp 163 49 [v0, v1, v2, v3, v4, v5, v6] [.int a1, .int a0, .ref o, r0] h Q = mr_rc (h.1 o) 11 (mr_run 139 [.ref o, .int a0, .int a1] h (fun v h' => mr_wp 163 52 [v0, v1, v2, v3, v4, v5, v6] (v.toList ++ [r0]) h' Q))) ∧
    (∀ (v0 v1 v2 v3 v4 v5 v6 : Value) (x : Int32) (y : Int32) (st : List Value) (h : mr_h) (Q : Option Value → mr_h → Prop), mr_wp 163 52 [v0, v1, v2, v3, v4, v5, v6] (.int y :: .int x :: st) h Q = mr_wp 163 53 [v0, v1, v2, v3, v4, v5, v6] (.int (x &&& y) :: st) h Q) ∧
    (∀ (v0 v1 v2 v4 v5 v6 : Value) (w3 : Int32) (x : Int32) (st : List Value) (h : mr_h) (Q : Option Value → mr_h → Prop), mr_wp 163 53 [v0, v1, v2, .int w3, v4, v5, v6] (.int x :: st) h Q = mr_wp 163 55 [v0, v1, v2, .int w3, .int x, v5, v6] st h Q) ∧
    (∀ (v0 v1 v2 v3 v4 v5 v6 : Value) (st : List Value) (h : mr_h) (Q : Option Value → mr_h → Prop), mr_wp 163 55 [v0, v1, v2, v3, v4, v5, v6] st h Q = mr_wp 163 57 [v0, v1, v2, v3, v4, v5, v6] (.int (-9) :: st) h Q) ∧
    (∀ (v0 v1 v2 v3 v5 v6 : Value) (w4 : Int32) (x : Int32) (st : List Value) (h : mr_h) (Q : Option Value → mr_h → Prop), mr_wp 163 57 [v0, v1, v2, v3, .int w4, v5, v6] (.int x :: st) h Q = mr_wp 163 59 [v0, v1, v2, v3, .int w4, .int x, v6] st h Q) ∧
    (∀ (v0 v1 v2 v3 v4 v5 v6 : Value) (st : List Value) (h : mr_h) (Q : Option Value → mr_h → Prop), mr_wp 163 59 [v0, v1, v2, v3, v4, v5, v6] st h Q = mr_wp 163 60 [v0, v1, v2, v3, v4, v5, v6] (.int (0) :: st) h Q) ∧
    (∀ (v0 v1 v2 v3 v4 v6 : Value) (w5 : Int32) (x : Int32) (st : List Value) (h : mr_h) (Q : Option Value → mr_h → Prop), mr_wp 163 60 [v0, v1, v2, v3, v4, .int w5, v6] (.int x :: st) h Q = mr_wp 163 62 [v0, v1, v2, v3, v4, .int w5, .int x] st h Q) ∧
    (∀ (v1 v2 v3 v4 v5 v6 : Value) (x : Nat) (st : List Value) (h : mr_h) (Q : Option Value → mr_h → Prop), mr_wp 163 64 [.ref x, v1, v2, v3, v4, v5, v6] st h Q = mr_wp 163 65 [.ref x, v1, v2, v3, v4, v5, v6] (.ref x :: st) h Q) ∧
    (∀ (v0 v1 v2 v3 v4 v5 v6 : Value) (a : Nat) (st : List Value) (h : mr_h) (Q : Option Value → mr_h → Prop), mr_wp 163 65 [v0, v1, v2, v3, v4, v5, v6] (.ref a :: st) h Q = mr_gf (h.1 a) 11 8 (fun v => mr_wp 163 68 [v0, v1, v2, v3, v4, v5, v6] (v :: st) h Q)) ∧
    (∀ (v0 v1 v2 v3 v4 v5 v6 : Value) (x : Int32) (y : Int32) (st : List Value) (h : mr_h) (Q : Option Value → mr_h → Prop), mr_wp 163 68 [v0, v1, v2, v3, v4, v5, v6] (.int y :: .int x :: st) h Q = if y ≤ x then mr_wp 163 118 [v0, v1, v2, v3, v4, v5, v6] st h Q else mr_wp 163 71 [v0, v1, v2, v3, v4, v5, v6] st h Q) ∧
    (∀ (v0 v1 v2 v3 v5 v6 : Value) (x : Int32) (st : List Value) (h : mr_h) (Q : Option Value → mr_h → Prop), mr_wp 163 71 [v0, v1, v2, v3, .int x, v5, v6] st h Q = mr_wp 163 73 [v0, v1, v2, v3, .int x, v5, v6] (.int x :: st) h Q) :=
  ⟨fun v1 v2 v3 v4 v5 v6 x st h Q => gx_one (i := .aload_n 0) (len := 1) (by decide +kernel) rfl,
   fun v0 v1 v2 v3 v4 v5 v6 st h Q => gx_one (i := .iconst 0) (len := 1) (by decide +kernel) rfl,
   fun v0 v1 v2 v3 v4 v5 v6 a x st h Q => gx_put (x := 65) (by decide +kernel) (by decide +kernel) ⟨rfl, Or.inl rfl⟩,
   fun v1 v2 v3 v4 v5 v6 x st h Q => gx_one (i := .aload_n 0) (len := 1) (by decide +kernel) rfl,
   fun v0 v2 v3 v4 v5 v6 x st h Q => gx_one (i := .iload_n 1) (len := 1) (by decide +kernel) rfl,
   fun v0 v1 v2 v3 v4 v5 v6 a0 o h Q => gx_virt (x := 132) (n := 1) (by decide +kernel) (by decide +kernel) rfl (Or.inl (Nat.le_of_ble_eq_true rfl)) (by show _ ≤ mr_mxl 132; rw [show mr_mxl 132 = 2 from by decide +kernel]; exact Nat.le_of_ble_eq_true rfl) (by decide +kernel),
   fun v0 v1 v2 v3 v4 v5 v6 x st h Q => gx_br (i := .ifCond .eq 11) (len := 3) (c := .eq) (by decide +kernel) rfl rfl,
   fun v1 v2 v3 v4 v5 v6 x st h Q => gx_one (i := .aload_n 0) (len := 1) (by decide +kernel) rfl,
   fun v0 v1 v3 v4 v5 v6 x st h Q => gx_one (i := .iload_n 2) (len := 1) (by decide +kernel) rfl,
   fun v0 v1 v2 v3 v4 v5 v6 a0 o h Q => gx_virt (x := 132) (n := 1) (by decide +kernel) (by decide +kernel) rfl (Or.inl (Nat.le_of_ble_eq_true rfl)) (by show _ ≤ mr_mxl 132; rw [show mr_mxl 132 = 2 from by decide +kernel]; exact Nat.le_of_ble_eq_true rfl) (by decide +kernel),
   fun v0 v1 v2 v3 v4 v5 v6 x st h Q => gx_br (i := .ifCond .ne 5) (len := 3) (c := .ne) (by decide +kernel) rfl rfl,
   fun v0 v1 v2 v3 v4 v5 v6 st h Q => gx_one (i := .iconst (-1)) (len := 1) (by decide +kernel) rfl,
   fun v0 v1 v2 v3 v4 v5 v6 x h Q => gx_ret (i := .ireturn) (len := 1) (by decide +kernel) rfl rfl (by simp only [mr_rt, if_pos]; rw [if_pos (Or.inl (by decide +kernel))]),
   fun v1 v2 v3 v4 v5 v6 x st h Q => gx_one (i := .aload_n 0) (len := 1) (by decide +kernel) rfl,
   fun v1 v2 v3 v4 v5 v6 x st h Q => gx_one (i := .aload_n 0) (len := 1) (by decide +kernel) rfl,
   fun v0 v1 v2 v3 v4 v5 v6 a st h Q => gx_get (x := 16) (by decide +kernel) (by decide +kernel),
   fun v1 v2 v3 v4 v5 v6 x st h Q => gx_one (i := .aload_n 0) (len := 1) (by decide +kernel) rfl,
   fun v0 v1 v2 v3 v4 v5 v6 a st h Q => gx_get (x := 41) (by decide +kernel) (by decide +kernel),
   fun v0 v1 v2 v3 v4 v5 v6 a0 a1 o h Q => gx_virt (x := 158) (n := 2) (by decide +kernel) (by decide +kernel) rfl (Or.inl (Nat.le_of_ble_eq_true rfl)) (by show _ ≤ mr_mxl 133; rw [show mr_mxl 133 = 5 from by decide +kernel]; exact Nat.le_of_ble_eq_true rfl) (by decide +kernel),
   fun v1 v2 v3 v4 v5 v6 x st h Q => gx_one (i := .aload_n 0) (len := 1) (by decide +kernel) rfl,
   fun v0 v1 v2 v3 v4 v5 v6 o h Q => gx_virt (x := 162) (n := 0) (by decide +kernel) (by decide +kernel) rfl (Or.inl (Nat.le_of_ble_eq_true rfl)) (by show _ ≤ mr_mxl 138; rw [show mr_mxl 138 = 3 from by decide +kernel]; exact Nat.le_of_ble_eq_true rfl) (by decide +kernel),
   fun v0 v1 v3 v4 v5 v6 w2 x st h Q => gx_one (i := .istore_n 3) (len := 1) (by decide +kernel) rfl,
   fun v1 v2 v3 v4 v5 v6 x st h Q => gx_one (i := .aload_n 0) (len := 1) (by decide +kernel) rfl,
   fun v0 v2 v3 v4 v5 v6 x st h Q => gx_one (i := .iload_n 1) (len := 1) (by decide +kernel) rfl,
   fun v0 v1 v2 v4 v5 v6 x st h Q => gx_one (i := .iload_n 3) (len := 1) (by decide +kernel) rfl,
   fun v0 v1 v2 v3 v4 v5 v6 a0 a1 o h Q => gx_virt (x := 170) (n := 2) (by decide +kernel) (by decide +kernel) rfl (Or.inl (Nat.le_of_ble_eq_true rfl)) (by show _ ≤ mr_mxl 142; rw [show mr_mxl 142 = 6 from by decide +kernel]; exact Nat.le_of_ble_eq_true rfl) (by decide +kernel),
   fun v1 v2 v3 v4 v5 v6 x st h Q => gx_one (i := .aload_n 0) (len := 1) (by decide +kernel) rfl,
   fun v0 v1 v3 v4 v5 v6 x st h Q => gx_one (i := .iload_n 2) (len := 1) (by decide +kernel) rfl,
   fun v0 v1 v2 v4 v5 v6 x st h Q => gx_one (i := .iload_n 3) (len := 1) (by decide +kernel) rfl,
   fun v0 v1 v2 v3 v4 v5 v6 a0 a1 o r0 h Q => gx_virt (x := 166) (n := 2) (by decide +kernel) (by decide +kernel) rfl (Or.inl (Nat.le_of_ble_eq_true rfl)) (by show _ ≤ mr_mxl 139; rw [show mr_mxl 139 = 6 from by decide +kernel]; exact Nat.le_of_ble_eq_true rfl) (by decide +kernel),
   fun v0 v1 v2 v3 v4 v5 v6 x y st h Q => gx_one (i := .iand) (len := 1) (by decide +kernel) rfl,
   fun v0 v1 v2 v4 v5 v6 w3 x st h Q => gx_one (i := .istore 4) (len := 2) (by decide +kernel) rfl,
   fun v0 v1 v2 v3 v4 v5 v6 st h Q => gx_one (i := .bipush (-9)) (len := 2) (by decide +kernel) rfl,
   fun v0 v1 v2 v3 v5 v6 w4 x st h Q => gx_one (i := .istore 5) (len := 2) (by decide +kernel) rfl,
   fun v0 v1 v2 v3 v4 v5 v6 st h Q => gx_one (i := .iconst 0) (len := 1) (by decide +kernel) rfl,
   fun v0 v1 v2 v3 v4 v6 w5 x st h Q => gx_one (i := .istore 6) (len := 2) (by decide +kernel) rfl,
   fun v1 v2 v3 v4 v5 v6 x st h Q => gx_one (i := .aload_n 0) (len := 1) (by decide +kernel) rfl,
   fun v0 v1 v2 v3 v4 v5 v6 a st h Q => gx_get (x := 123) (by decide +kernel) (by decide +kernel),
   fun v0 v1 v2 v3 v4 v5 v6 x y st h Q => gx_br (i := .if_icmp .ge 50) (len := 3) (c := .ge) (by decide +kernel) rfl rfl,
   fun v0 v1 v2 v3 v5 v6 x st h Q => gx_one (i := .iload 4) (len := 2) (by decide +kernel) rfl⟩
theorem S_mo_hub_1 : (∀ (v0 v1 v2 v3 v4 v5 : Value) (x : Int32) (st : List Value) (h : mr_h) (Q : Option Value → mr_h → Prop), mr_wp 163 73 [v0, v1, v2, v3, v4, v5, .int x] st h Q = mr_wp 163 75 [v0, v1, v2, v3, v4, v5, .int x] (.int x :: st) h Q) ∧
    (∀ (v0 v1 v2 v3 v4 v5 v6 : Value) (a0 : Int32) (a1 : Int32) (h : mr_h) (Q : Option Value → mr_h → Prop), mr_wp 163 75 [v0, v1, v2, v3, v4, v5, v6] [.int a1, .int a0] h Q = mr_run 130 [.int a0, .int a1] h (fun v h' => mr_wp 163 78 [v0, v1, v2, v3, v4, v5, v6] (v.toList ++ []) h' Q)) ∧
    (∀ (v0 v1 v2 v3 v4 v5 v6 : Value) (x : Int32) (st : List Value) (h : mr_h) (Q : Option Value → mr_h → Prop), mr_wp 163 78 [v0, v1, v2, v3, v4, v5, v6] (.int x :: st) h Q = if x = 0 then mr_wp 163 108 [v0, v1, v2, v3, v4, v5, v6] st h Q else mr_wp 163 81 [v0, v1, v2, v3, v4, v5, v6] st h Q) ∧
    (∀ (v0 v1 v2 v3 v4 v6 : Value) (x : Int32) (st : List Value) (h : mr_h) (Q : Option Value → mr_h → Prop), mr_wp 163 81 [v0, v1, v2, v3, v4, .int x, v6] st h Q = mr_wp 163 83 [v0, v1, v2, v3, v4, .int x, v6] (.int x :: st) h Q) ∧
    (∀ (v0 v1 v2 v3 v4 v5 v6 : Value) (st : List Value) (h : mr_h) (Q : Option Value → mr_h → Prop), mr_wp 163 83 [v0, v1, v2, v3, v4, v5, v6] st h Q = mr_wp 163 85 [v0, v1, v2, v3, v4, v5, v6] (.int (-9) :: st) h Q) ∧
    (∀ (v0 v1 v2 v3 v4 v5 v6 : Value) (x : Int32) (y : Int32) (st : List Value) (h : mr_h) (Q : Option Value → mr_h → Prop), mr_wp 163 85 [v0, v1, v2, v3, v4, v5, v6] (.int y :: .int x :: st) h Q = if x = y then mr_wp 163 103 [v0, v1, v2, v3, v4, v5, v6] st h Q else mr_wp 163 88 [v0, v1, v2, v3, v4, v5, v6] st h Q) ∧
    (∀ (v1 v2 v3 v4 v5 v6 : Value) (x : Nat) (st : List Value) (h : mr_h) (Q : Option Value → mr_h → Prop), mr_wp 163 88 [.ref x, v1, v2, v3, v4, v5, v6] st h Q = mr_wp 163 89 [.ref x, v1, v2, v3, v4, v5, v6] (.ref x :: st) h Q) ∧
    (∀ (v0 v1 v2 v3 v4 v5 : Value) (x : Int32) (st : List Value) (h : mr_h) (Q : Option Value → mr_h → Prop), mr_wp 163 89 [v0, v1, v2, v3, v4, v5, .int x] st h Q = mr_wp 163 91 [v0, v1, v2, v3, v4, v5, .int x] (.int x :: st) h Q) ∧
    (∀ (v0 v1 v2 v3 v4 v5 v6 : Value) (a0 : Int32) (o : Nat) (h : mr_h) (Q : Option Value → mr_h → Prop), mr_wp 163 91 [v0, v1, v2, v3, v4, v5, v6] [.int a0, .ref o] h Q = mr_rc (h.1 o) 11 (mr_run 141 [.ref o, .int a0] h (fun v h' => mr_wp 163 94 [v0, v1, v2, v3, v4, v5, v6] (v.toList ++ []) h' Q))) ∧
    (∀ (v1 v2 v3 v4 v5 v6 : Value) (x : Nat) (st : List Value) (h : mr_h) (Q : Option Value → mr_h → Prop), mr_wp 163 94 [.ref x, v1, v2, v3, v4, v5, v6] st h Q = mr_wp 163 95 [.ref x, v1, v2, v3, v4, v5, v6] (.ref x :: st) h Q) ∧
    (∀ (v0 v1 v2 v3 v4 v6 : Value) (x : Int32) (st : List Value) (h : mr_h) (Q : Option Value → mr_h → Prop), mr_wp 163 95 [v0, v1, v2, v3, v4, .int x, v6] st h Q = mr_wp 163 97 [v0, v1, v2, v3, v4, .int x, v6] (.int x :: st) h Q) ∧
    (∀ (v0 v1 v2 v3 v4 v5 v6 : Value) (a0 : Int32) (o : Nat) (r0 : Value) (h : mr_h) (Q : Option Value → mr_h → Prop), mr_wp 163 97 [v0, v1, v2, v3, v4, v5, v6] [.int a0, .ref o, r0] h Q = mr_rc (h.1 o) 11 (mr_run 141 [.ref o, .int a0] h (fun v h' => mr_wp 163 100 [v0, v1, v2, v3, v4, v5, v6] (v.toList ++ [r0]) h' Q))) ∧
    (∀ (v0 v1 v2 v3 v4 v5 v6 : Value) (x : Int32) (y : Int32) (st : List Value) (h : mr_h) (Q : Option Value → mr_h → Prop), mr_wp 163 100 [v0, v1, v2, v3, v4, v5, v6] (.int y :: .int x :: st) h Q = if y ≤ x then mr_wp 163 108 [v0, v1, v2, v3, v4, v5, v6] st h Q else mr_wp 163 103 [v0, v1, v2, v3, v4, v5, v6] st h Q) ∧
    (∀ (v0 v1 v2 v3 v4 v5 : Value) (x : Int32) (st : List Value) (h : mr_h) (Q : Option Value → mr_h → Prop), mr_wp 163 103 [v0, v1, v2, v3, v4, v5, .int x] st h Q = mr_wp 163 105 [v0, v1, v2, v3, v4, v5, .int x] (.int x :: st) h Q) ∧
    (∀ (v0 v1 v2 v3 v4 v5 v6 : Value) (st : List Value) (h : mr_h) (Q : Option Value → mr_h → Prop), mr_wp 163 105 [v0, v1, v2, v3, v4, v5, v6] st h Q = mr_wp 163 110 [v0, v1, v2, v3, v4, v5, v6] st h Q) ∧
    (∀ (v0 v1 v2 v3 v4 v6 : Value) (x : Int32) (st : List Value) (h : mr_h) (Q : Option Value → mr_h → Prop), mr_wp 163 108 [v0, v1, v2, v3, v4, .int x, v6] st h Q = mr_wp 163 110 [v0, v1, v2, v3, v4, .int x, v6] (.int x :: st) h Q) ∧
    (∀ (v0 v1 v2 v3 v5 v6 : Value) (w4 : Int32) (x : Int32) (st : List Value) (h : mr_h) (Q : Option Value → mr_h → Prop), mr_wp 163 110 [v0, v1, v2, v3, .int w4, v5, v6] (.int x :: st) h Q = mr_wp 163 112 [v0, v1, v2, v3, .int w4, .int x, v6] st h Q) ∧
    (∀ (v0 v1 v2 v3 v4 : Value) (x : Int32) (w5 : Int32) (st : List Value) (h : mr_h) (Q : Option Value → mr_h → Prop), mr_wp 163 112 [v0, v1, v2, v3, v4, .int w5, .int x] st h Q = mr_wp 163 115 [v0, v1, v2, v3, v4, .int w5, .int (x + (1))] st h Q) ∧
    (∀ (v0 v1 v2 v3 v4 v5 v6 : Value) (st : List Value) (h : mr_h) (Q : Option Value → mr_h → Prop), mr_wp 163 115 [v0, v1, v2, v3, v4, v5, v6] st h Q = mr_wp 163 62 [v0, v1, v2, v3, v4, v5, v6] st h Q) ∧
    (∀ (v0 v1 v2 v3 v4 v6 : Value) (x : Int32) (st : List Value) (h : mr_h) (Q : Option Value → mr_h → Prop), mr_wp 163 118 [v0, v1, v2, v3, v4, .int x, v6] st h Q = mr_wp 163 120 [v0, v1, v2, v3, v4, .int x, v6] (.int x :: st) h Q) ∧
    (∀ (v0 v1 v2 v3 v4 v5 v6 : Value) (x : Int32) (h : mr_h) (Q : Option Value → mr_h → Prop), mr_wp 163 120 [v0, v1, v2, v3, v4, v5, v6] [.int x] h Q = Q (some (.int x)) h) :=
  ⟨fun v0 v1 v2 v3 v4 v5 x st h Q => gx_one (i := .iload 6) (len := 2) (by decide +kernel) rfl,
   fun v0 v1 v2 v3 v4 v5 v6 a0 a1 h Q => gx_stat (x := 116) (t := 130) (n := 2) (by decide +kernel) (by decide +kernel) (by decide) (by decide +kernel) rfl (Or.inl (Nat.le_of_ble_eq_true rfl)) (by show _ ≤ mr_mxl 130; rw [show mr_mxl 130 = 2 from by decide +kernel]; exact Nat.le_of_ble_eq_true rfl),
   fun v0 v1 v2 v3 v4 v5 v6 x st h Q => gx_br (i := .ifCond .eq 30) (len := 3) (c := .eq) (by decide +kernel) rfl rfl,
   fun v0 v1 v2 v3 v4 v6 x st h Q => gx_one (i := .iload 5) (len := 2) (by decide +kernel) rfl,
   fun v0 v1 v2 v3 v4 v5 v6 st h Q => gx_one (i := .bipush (-9)) (len := 2) (by decide +kernel) rfl,
   fun v0 v1 v2 v3 v4 v5 v6 x y st h Q => gx_br (i := .if_icmp .eq 18) (len := 3) (c := .eq) (by decide +kernel) rfl rfl,
   fun v1 v2 v3 v4 v5 v6 x st h Q => gx_one (i := .aload_n 0) (len := 1) (by decide +kernel) rfl,
   fun v0 v1 v2 v3 v4 v5 x st h Q => gx_one (i := .iload 6) (len := 2) (by decide +kernel) rfl,
   fun v0 v1 v2 v3 v4 v5 v6 a0 o h Q => gx_virt (x := 151) (n := 1) (by decide +kernel) (by decide +kernel) rfl (Or.inl (Nat.le_of_ble_eq_true rfl)) (by show _ ≤ mr_mxl 141; rw [show mr_mxl 141 = 5 from by decide +kernel]; exact Nat.le_of_ble_eq_true rfl) (by decide +kernel),
   fun v1 v2 v3 v4 v5 v6 x st h Q => gx_one (i := .aload_n 0) (len := 1) (by decide +kernel) rfl,
   fun v0 v1 v2 v3 v4 v6 x st h Q => gx_one (i := .iload 5) (len := 2) (by decide +kernel) rfl,
   fun v0 v1 v2 v3 v4 v5 v6 a0 o r0 h Q => gx_virt (x := 151) (n := 1) (by decide +kernel) (by decide +kernel) rfl (Or.inl (Nat.le_of_ble_eq_true rfl)) (by show _ ≤ mr_mxl 141; rw [show mr_mxl 141 = 5 from by decide +kernel]; exact Nat.le_of_ble_eq_true rfl) (by decide +kernel),
   fun v0 v1 v2 v3 v4 v5 v6 x y st h Q => gx_br (i := .if_icmp .ge 8) (len := 3) (c := .ge) (by decide +kernel) rfl rfl,
   fun v0 v1 v2 v3 v4 v5 x st h Q => gx_one (i := .iload 6) (len := 2) (by decide +kernel) rfl,
   fun v0 v1 v2 v3 v4 v5 v6 st h Q => gx_one (i := .goto 5) (len := 3) (by decide +kernel) rfl,
   fun v0 v1 v2 v3 v4 v6 x st h Q => gx_one (i := .iload 5) (len := 2) (by decide +kernel) rfl,
   fun v0 v1 v2 v3 v5 v6 w4 x st h Q => gx_one (i := .istore 5) (len := 2) (by decide +kernel) rfl,
   fun v0 v1 v2 v3 v4 x w5 st h Q => gx_one (i := .iinc 6 1) (len := 3) (by decide +kernel) rfl,
   fun v0 v1 v2 v3 v4 v5 v6 st h Q => gx_one (i := .goto (-53)) (len := 3) (by decide +kernel) rfl,
   fun v0 v1 v2 v3 v4 v6 x st h Q => gx_one (i := .iload 5) (len := 2) (by decide +kernel) rfl,
   fun v0 v1 v2 v3 v4 v5 v6 x h Q => gx_ret (i := .ireturn) (len := 1) (by decide +kernel) rfl rfl (by simp only [mr_rt, if_pos]; rw [if_pos (Or.inl (by decide +kernel))])⟩

theorem s_mo_way_72 (v0 v1 v2 v3 v4 v6 : Value) (x : Int32) (st : List Value) (h : mr_h) (Q : Option Value → mr_h → Prop) : mr_wp 164 72 [v0, v1, v2, v3, v4, .int x, v6] st h Q = mr_wp 164 74 [v0, v1, v2, v3, v4, .int x, v6] (.int x :: st) h Q := gx_one (i := .iload 5) (len := 2) (by decide +kernel) rfl
theorem s_mo_way_81 (v1 v2 v3 v4 v5 v6 : Value) (x : Nat) (st : List Value) (h : mr_h) (Q : Option Value → mr_h → Prop) : mr_wp 164 81 [.ref x, v1, v2, v3, v4, v5, v6] st h Q = mr_wp 164 82 [.ref x, v1, v2, v3, v4, v5, v6] (.ref x :: st) h Q := gx_one (i := .aload_n 0) (len := 1) (by decide +kernel) rfl
theorem S_mo_way_0 : (∀ (v1 v2 v3 v4 v5 v6 : Value) (x : Nat) (st : List Value) (h : mr_h) (Q : Option Value → mr_h → Prop), mr_wp 164 0 [.ref x, v1, v2, v3, v4, v5, v6] st h Q = mr_wp 164 1 [.ref x, v1, v2, v3, v4, v5, v6] (.ref x :: st) h Q) ∧
    (∀ (v0 v1 v2 v3 v4 v5 v6 : Value) (st : List Value) (h : mr_h) (Q : Option Value → mr_h → Prop), mr_wp 164 1 [v0, v1, v2, v3, v4, v5, v6] st h Q = mr_wp 164 2 [v0, v1, v2, v3, v4, v5, v6] (.int (0) :: st) h Q) ∧
    (∀ (v0 v1 v2 v3 v4 v5 v6 : Value) (a : Nat) (x : Int32) (st : List Value) (h : mr_h) (Q : Option Value → mr_h → Prop), mr_wp 164 2 [v0, v1, v2, v3, v4, v5, v6] (.int x :: .ref a :: st) h Q = mr_pf (h.1 a) 11 0 (.int x) (fun c => mr_wp 164 5 [v0, v1, v2, v3, v4, v5, v6] st (mr_up h a c) Q)) ∧
    (∀ (v1 v2 v3 v4 v5 v6 : Value) (x : Nat) (st : List Value) (h : mr_h) (Q : Option Value → mr_h → Prop), mr_wp 164 5 [.ref x, v1, v2, v3, v4, v5, v6] st h Q = mr_wp 164 6 [.ref x, v1, v2, v3, v4, v5, v6] (.ref x :: st) h Q) ∧
    (∀ (v0 v2 v3 v4 v5 v6 : Value) (x : Int32) (st : List Value) (h : mr_h) (Q : Option Value → mr_h → Prop), mr_wp 164 6 [v0, .int x, v2, v3, v4, v5, v6] st h Q = mr_wp 164 7 [v0, .int x, v2, v3, v4, v5, v6] (.int x :: st) h Q) ∧
    (∀ (v0 v1 v2 v3 v4 v5 v6 : Value) (a0 : Int32) (o : Nat) (h : mr_h) (Q : Option Value → mr_h → Prop), mr_wp 164 7 [v0, v1, v2, v3, v4, v5, v6] [.int a0, .ref o] h Q = mr_rc (h.1 o) 11 (mr_run 132 [.ref o, .int a0] h (fun v h' => mr_wp 164 10 [v0, v1, v2, v3, v4, v5, v6] (v.toList ++ []) h' Q))) ∧
    (∀ (v0 v1 v2 v3 v4 v5 v6 : Value) (x : Int32) (st : List Value) (h : mr_h) (Q : Option Value → mr_h → Prop), mr_wp 164 10 [v0, v1, v2, v3, v4, v5, v6] (.int x :: st) h Q = if x = 0 then mr_wp 164 26 [v0, v1, v2, v3, v4, v5, v6] st h Q else mr_wp 164 13 [v0, v1, v2, v3, v4, v5, v6] st h Q) ∧
    (∀ (v1 v2 v3 v4 v5 v6 : Value) (x : Nat) (st : List Value) (h : mr_h) (Q : Option Value → mr_h → Prop), mr_wp 164 13 [.ref x, v1, v2, v3, v4, v5, v6] st h Q = mr_wp 164 14 [.ref x, v1, v2, v3, v4, v5, v6] (.ref x :: st) h Q) ∧
    (∀ (v0 v1 v3 v4 v5 v6 : Value) (x : Int32) (st : List Value) (h : mr_h) (Q : Option Value → mr_h → Prop), mr_wp 164 14 [v0, v1, .int x, v3, v4, v5, v6] st h Q = mr_wp 164 15 [v0, v1, .int x, v3, v4, v5, v6] (.int x :: st) h Q) ∧
    (∀ (v0 v1 v2 v3 v4 v5 v6 : Value) (a0 : Int32) (o : Nat) (h : mr_h) (Q : Option Value → mr_h → Prop), mr_wp 164 15 [v0, v1, v2, v3, v4, v5, v6] [.int a0, .ref o] h Q = mr_rc (h.1 o) 11 (mr_run 132 [.ref o, .int a0] h (fun v h' => mr_wp 164 18 [v0, v1, v2, v3, v4, v5, v6] (v.toList ++ []) h' Q))) ∧
    (∀ (v0 v1 v2 v3 v4 v5 v6 : Value) (x : Int32) (st : List Value) (h : mr_h) (Q : Option Value → mr_h → Prop), mr_wp 164 18 [v0, v1, v2, v3, v4, v5, v6] (.int x :: st) h Q = if x = 0 then mr_wp 164 26 [v0, v1, v2, v3, v4, v5, v6] st h Q else mr_wp 164 21 [v0, v1, v2, v3, v4, v5, v6] st h Q) ∧
    (∀ (v0 v1 v2 v4 v5 v6 : Value) (x : Int32) (st : List Value) (h : mr_h) (Q : Option Value → mr_h → Prop), mr_wp 164 21 [v0, v1, v2, .int x, v4, v5, v6] st h Q = mr_wp 164 22 [v0, v1, v2, .int x, v4, v5, v6] (.int x :: st) h Q) ∧
    (∀ (v0 v1 v2 v3 v4 v5 v6 : Value) (st : List Value) (h : mr_h) (Q : Option Value → mr_h → Prop), mr_wp 164 22 [v0, v1, v2, v3, v4, v5, v6] st h Q = mr_wp 164 23 [v0, v1, v2, v3, v4, v5, v6] (.int (-1) :: st) h Q) ∧
    (∀ (v0 v1 v2 v3 v4 v5 v6 : Value) (x : Int32) (y : Int32) (st : List Value) (h : mr_h) (Q : Option Value → mr_h → Prop), mr_wp 164 23 [v0, v1, v2, v3, v4, v5, v6] (.int y :: .int x :: st) h Q = if y ≤ x then mr_wp 164 28 [v0, v1, v2, v3, v4, v5, v6] st h Q else mr_wp 164 26 [v0, v1, v2, v3, v4, v5, v6] st h Q) ∧
    (∀ (v0 v1 v2 v3 v4 v5 v6 : Value) (st : List Value) (h : mr_h) (Q : Option Value → mr_h → Prop), mr_wp 164 26 [v0, v1, v2, v3, v4, v5, v6] st h Q = mr_wp 164 27 [v0, v1, v2, v3, v4, v5, v6] (.int (-1) :: st) h Q) ∧
    (∀ (v0 v1 v2 v3 v4 v5 v6 : Value) (x : Int32) (h : mr_h) (Q : Option Value → mr_h → Prop), mr_wp 164 27 [v0, v1, v2, v3, v4, v5, v6] [.int x] h Q = Q (some (.int x)) h) ∧
    (∀ (v1 v2 v3 v4 v5 v6 : Value) (x : Nat) (st : List Value) (h : mr_h) (Q : Option Value → mr_h → Prop), mr_wp 164 28 [.ref x, v1, v2, v3, v4, v5, v6] st h Q = mr_wp 164 29 [.ref x, v1, v2, v3, v4, v5, v6] (.ref x :: st) h Q) ∧
    (∀ (v0 v1 v3 v4 v5 v6 : Value) (x : Int32) (st : List Value) (h : mr_h) (Q : Option Value → mr_h → Prop), mr_wp 164 29 [v0, v1, .int x, v3, v4, v5, v6] st h Q = mr_wp 164 30 [v0, v1, .int x, v3, v4, v5, v6] (.int x :: st) h Q) ∧
    (∀ (v0 v1 v2 v3 v4 v5 v6 : Value) (a0 : Int32) (o : Nat) (h : mr_h) (Q : Option Value → mr_h → Prop), mr_wp 164 30 [v0, v1, v2, v3, v4, v5, v6] [.int a0, .ref o] h Q = mr_rc (h.1 o) 11 (mr_run 165 [.ref o, .int a0] h (fun v h' => mr_wp 164 33 [v0, v1, v2, v3, v4, v5, v6] (v.toList ++ []) h' Q))) ∧
    (∀ (v1 v2 v3 v4 v5 v6 : Value) (x : Nat) (st : List Value) (h : mr_h) (Q : Option Value → mr_h → Prop), mr_wp 164 33 [.ref x, v1, v2, v3, v4, v5, v6] st h Q = mr_wp 164 34 [.ref x, v1, v2, v3, v4, v5, v6] (.ref x :: st) h Q) ∧
    (∀ (v0 v1 v2 v3 v4 v5 v6 : Value) (a : Nat) (st : List Value) (h : mr_h) (Q : Option Value → mr_h → Prop), mr_wp 164 34 [v0, v1, v2, v3, v4, v5, v6] (.ref a :: st) h Q = mr_gf (h.1 a) 11 25 (fun v => mr_wp 164 37 [v0, v1, v2, v3, v4, v5, v6] (v :: st) h Q)) ∧
    (∀ (v0 v2 v3 v4 v5 v6 : Value) (x : Int32) (st : List Value) (h : mr_h) (Q : Option Value → mr_h → Prop), mr_wp 164 37 [v0, .int x, v2, v3, v4, v5, v6] st h Q = mr_wp 164 38 [v0, .int x, v2, v3, v4, v5, v6] (.int x :: st) h Q) ∧
    (∀ (v0 v1 v2 v3 v4 v5 v6 : Value) (a : Nat) (x : Int32) (st : List Value) (h : mr_h) (Q : Option Value → mr_h → Prop), mr_wp 164 38 [v0, v1, v2, v3, v4, v5, v6] (.int x :: .ref a :: st) h Q = mr_ai (h.1 a) x (fun v => mr_wp 164 39 [v0, v1, v2, v3, v4, v5, v6] (.int v :: st) h Q)) ∧
    (∀ (v0 v1 v2 v3 v4 v5 v6 : Value) (x : Int32) (st : List Value) (h : mr_h) (Q : Option Value → mr_h → Prop), mr_wp 164 39 [v0, v1, v2, v3, v4, v5, v6] (.int x :: st) h Q = if x < 0 then mr_wp 164 52 [v0, v1, v2, v3, v4, v5, v6] st h Q else mr_wp 164 42 [v0, v1, v2, v3, v4, v5, v6] st h Q) ∧
    (∀ (v0 v1 v2 v4 v5 v6 : Value) (x : Int32) (st : List Value) (h : mr_h) (Q : Option Value → mr_h → Prop), mr_wp 164 42 [v0, v1, v2, .int x, v4, v5, v6] st h Q = mr_wp 164 43 [v0, v1, v2, .int x, v4, v5, v6] (.int x :: st) h Q) ∧
    (∀ (v1 v2 v3 v4 v5 v6 : Value) (x : Nat) (st : List Value) (h : mr_h) (Q : Option Value → mr_h → Prop), mr_wp 164 43 [.ref x, v1, v2, v3, v4, v5, v6] st h Q = mr_wp 164 44 [.ref x, v1, v2, v3, v4, v5, v6] (.ref x :: st) h Q) ∧
    (∀ (v0 v1 v2 v3 v4 v5 v6 : Value) (a : Nat) (st : List Value) (h : mr_h) (Q : Option Value → mr_h → Prop), mr_wp 164 44 [v0, v1, v2, v3, v4, v5, v6] (.ref a :: st) h Q = mr_gf (h.1 a) 11 25 (fun v => mr_wp 164 47 [v0, v1, v2, v3, v4, v5, v6] (v :: st) h Q)) ∧
    (∀ (v0 v2 v3 v4 v5 v6 : Value) (x : Int32) (st : List Value) (h : mr_h) (Q : Option Value → mr_h → Prop), mr_wp 164 47 [v0, .int x, v2, v3, v4, v5, v6] st h Q = mr_wp 164 48 [v0, .int x, v2, v3, v4, v5, v6] (.int x :: st) h Q) ∧
    (∀ (v0 v1 v2 v3 v4 v5 v6 : Value) (a : Nat) (x : Int32) (st : List Value) (h : mr_h) (Q : Option Value → mr_h → Prop), mr_wp 164 48 [v0, v1, v2, v3, v4, v5, v6] (.int x :: .ref a :: st) h Q = mr_ai (h.1 a) x (fun v => mr_wp 164 49 [v0, v1, v2, v3, v4, v5, v6] (.int v :: st) h Q)) ∧
    (∀ (v0 v1 v2 v3 v4 v5 v6 : Value) (x : Int32) (y : Int32) (st : List Value) (h : mr_h) (Q : Option Value → mr_h → Prop), mr_wp 164 49 [v0, v1, v2, v3, v4, v5, v6] (.int y :: .int x :: st) h Q = if x ≤ y then mr_wp 164 55 [v0, v1, v2, v3, v4, v5, v6] st h Q else mr_wp 164 52 [v0, v1, v2, v3, v4, v5, v6] st h Q) ∧
    (∀ (v0 v1 v2 v3 v4 v5 v6 : Value) (st : List Value) (h : mr_h) (Q : Option Value → mr_h → Prop), mr_wp 164 52 [v0, v1, v2, v3, v4, v5, v6] st h Q = mr_wp 164 54 [v0, v1, v2, v3, v4, v5, v6] (.int (-9) :: st) h Q) ∧
    (∀ (v0 v1 v2 v3 v4 v5 v6 : Value) (x : Int32) (h : mr_h) (Q : Option Value → mr_h → Prop), mr_wp 164 54 [v0, v1, v2, v3, v4, v5, v6] [.int x] h Q = Q (some (.int x)) h) ∧
    (∀ (v0 v1 v2 v4 v5 v6 : Value) (x : Int32) (st : List Value) (h : mr_h) (Q : Option Value → mr_h → Prop), mr_wp 164 55 [v0, v1, v2, .int x, v4, v5, v6] st h Q = mr_wp 164 56 [v0, v1, v2, .int x, v4, v5, v6] (.int x :: st) h Q) ∧
    (∀ (v0 v1 v2 v3 v4 v5 v6 : Value) (x : Int32) (st : List Value) (h : mr_h) (Q : Option Value → mr_h → Prop), mr_wp 164 56 [v0, v1, v2, v3, v4, v5, v6] (.int x :: st) h Q = if 0 ≤ x then mr_wp 164 66 [v0, v1, v2, v3, v4, v5, v6] st h Q else mr_wp 164 59 [v0, v1, v2, v3, v4, v5, v6] st h Q) ∧
    (∀ (v1 v2 v3 v4 v5 v6 : Value) (x : Nat) (st : List Value) (h : mr_h) (Q : Option Value → mr_h → Prop), mr_wp 164 59 [.ref x, v1, v2, v3, v4, v5, v6] st h Q = mr_wp 164 60 [.ref x, v1, v2, v3, v4, v5, v6] (.ref x :: st) h Q) ∧
    (∀ (v0 v1 v2 v3 v4 v5 v6 : Value) (a : Nat) (st : List Value) (h : mr_h) (Q : Option Value → mr_h → Prop), mr_wp 164 60 [v0, v1, v2, v3, v4, v5, v6] (.ref a :: st) h Q = mr_gf (h.1 a) 11 25 (fun v => mr_wp 164 63 [v0, v1, v2, v3, v4, v5, v6] (v :: st) h Q)) ∧
    (∀ (v0 v2 v3 v4 v5 v6 : Value) (x : Int32) (st : List Value) (h : mr_h) (Q : Option Value → mr_h → Prop), mr_wp 164 63 [v0, .int x, v2, v3, v4, v5, v6] st h Q = mr_wp 164 64 [v0, .int x, v2, v3, v4, v5, v6] (.int x :: st) h Q) ∧
    (∀ (v0 v1 v2 v3 v4 v5 v6 : Value) (a : Nat) (x : Int32) (st : List Value) (h : mr_h) (Q : Option Value → mr_h → Prop), mr_wp 164 64 [v0, v1, v2, v3, v4, v5, v6] (.int x :: .ref a :: st) h Q = mr_ai (h.1 a) x (fun v => mr_wp 164 65 [v0, v1, v2, v3, v4, v5, v6] (.int v :: st) h Q)) ∧
    (∀ (v0 v1 v2 v3 v4 v5 v6 : Value) (x : Int32) (h : mr_h) (Q : Option Value → mr_h → Prop), mr_wp 164 65 [v0, v1, v2, v3, v4, v5, v6] [.int x] h Q = Q (some (.int x)) h) ∧
    (∀ (v0 v2 v3 v4 v5 v6 : Value) (x : Int32) (st : List Value) (h : mr_h) (Q : Option Value → mr_h → Prop), mr_wp 164 66 [v0, .int x, v2, v3, v4, v5, v6] st h Q = mr_wp 164 67 [v0, .int x, v2, v3, v4, v5, v6] (.int x :: st) h Q) :=
  ⟨fun v1 v2 v3 v4 v5 v6 x st h Q => gx_one (i := .aload_n 0) (len := 1) (by decide +kernel) rfl,
   fun v0 v1 v2 v3 v4 v5 v6 st h Q => gx_one (i := .iconst 0) (len := 1) (by decide +kernel) rfl,
   fun v0 v1 v2 v3 v4 v5 v6 a x st h Q => gx_put (x := 65) (by decide +kernel) (by decide +kernel) ⟨rfl, Or.inl rfl⟩,
   fun v1 v2 v3 v4 v5 v6 x st h Q => gx_one (i := .aload_n 0) (len := 1) (by decide +kernel) rfl,
   fun v0 v2 v3 v4 v5 v6 x st h Q => gx_one (i := .iload_n 1) (len := 1) (by decide +kernel) rfl,
   fun v0 v1 v2 v3 v4 v5 v6 a0 o h Q => gx_virt (x := 132) (n := 1) (by decide +kernel) (by decide +kernel) rfl (Or.inl (Nat.le_of_ble_eq_true rfl)) (by show _ ≤ mr_mxl 132; rw [show mr_mxl 132 = 2 from by decide +kernel]; exact Nat.le_of_ble_eq_true rfl) (by decide +kernel),
   fun v0 v1 v2 v3 v4 v5 v6 x st h Q => gx_br (i := .ifCond .eq 16) (len := 3) (c := .eq) (by decide +kernel) rfl rfl,
   fun v1 v2 v3 v4 v5 v6 x st h Q => gx_one (i := .aload_n 0) (len := 1) (by decide +kernel) rfl,
   fun v0 v1 v3 v4 v5 v6 x st h Q => gx_one (i := .iload_n 2) (len := 1) (by decide +kernel) rfl,
   fun v0 v1 v2 v3 v4 v5 v6 a0 o h Q => gx_virt (x := 132) (n := 1) (by decide +kernel) (by decide +kernel) rfl (Or.inl (Nat.le_of_ble_eq_true rfl)) (by show _ ≤ mr_mxl 132; rw [show mr_mxl 132 = 2 from by decide +kernel]; exact Nat.le_of_ble_eq_true rfl) (by decide +kernel),
   fun v0 v1 v2 v3 v4 v5 v6 x st h Q => gx_br (i := .ifCond .eq 8) (len := 3) (c := .eq) (by decide +kernel) rfl rfl,
   fun v0 v1 v2 v4 v5 v6 x st h Q => gx_one (i := .iload_n 3) (len := 1) (by decide +kernel) rfl,
   fun v0 v1 v2 v3 v4 v5 v6 st h Q => gx_one (i := .iconst (-1)) (len := 1) (by decide +kernel) rfl,
   fun v0 v1 v2 v3 v4 v5 v6 x y st h Q => gx_br (i := .if_icmp .ge 5) (len := 3) (c := .ge) (by decide +kernel) rfl rfl,
   fun v0 v1 v2 v3 v4 v5 v6 st h Q => gx_one (i := .iconst (-1)) (len := 1) (by decide +kernel) rfl,
   fun v0 v1 v2 v3 v4 v5 v6 x h Q => gx_ret (i := .ireturn) (len := 1) (by decide +kernel) rfl rfl (by simp only [mr_rt, if_pos]; rw [if_pos (Or.inl (by decide +kernel))]),
   fun v1 v2 v3 v4 v5 v6 x st h Q => gx_one (i := .aload_n 0) (len := 1) (by decide +kernel) rfl,
   fun v0 v1 v3 v4 v5 v6 x st h Q => gx_one (i := .iload_n 2) (len := 1) (by decide +kernel) rfl,
   fun v0 v1 v2 v3 v4 v5 v6 a0 o h Q => gx_virt (x := 210) (n := 1) (by decide +kernel) (by decide +kernel) rfl (Or.inl (Nat.le_of_ble_eq_true rfl)) (by show _ ≤ mr_mxl 165; rw [show mr_mxl 165 = 5 from by decide +kernel]; exact Nat.le_of_ble_eq_true rfl) (by decide +kernel),
   fun v1 v2 v3 v4 v5 v6 x st h Q => gx_one (i := .aload_n 0) (len := 1) (by decide +kernel) rfl,
   fun v0 v1 v2 v3 v4 v5 v6 a st h Q => gx_get (x := 50) (by decide +kernel) (by decide +kernel),
   fun v0 v2 v3 v4 v5 v6 x st h Q => gx_one (i := .iload_n 1) (len := 1) (by decide +kernel) rfl,
   fun v0 v1 v2 v3 v4 v5 v6 a x st h Q => gx_iald (by decide +kernel),
   fun v0 v1 v2 v3 v4 v5 v6 x st h Q => gx_br (i := .ifCond .lt 13) (len := 3) (c := .lt) (by decide +kernel) rfl rfl,
   fun v0 v1 v2 v4 v5 v6 x st h Q => gx_one (i := .iload_n 3) (len := 1) (by decide +kernel) rfl,
   fun v1 v2 v3 v4 v5 v6 x st h Q => gx_one (i := .aload_n 0) (len := 1) (by decide +kernel) rfl,
   fun v0 v1 v2 v3 v4 v5 v6 a st h Q => gx_get (x := 50) (by decide +kernel) (by decide +kernel),
   fun v0 v2 v3 v4 v5 v6 x st h Q => gx_one (i := .iload_n 1) (len := 1) (by decide +kernel) rfl,
   fun v0 v1 v2 v3 v4 v5 v6 a x st h Q => gx_iald (by decide +kernel),
   fun v0 v1 v2 v3 v4 v5 v6 x y st h Q => gx_br (i := .if_icmp .le 6) (len := 3) (c := .le) (by decide +kernel) rfl rfl,
   fun v0 v1 v2 v3 v4 v5 v6 st h Q => gx_one (i := .bipush (-9)) (len := 2) (by decide +kernel) rfl,
   fun v0 v1 v2 v3 v4 v5 v6 x h Q => gx_ret (i := .ireturn) (len := 1) (by decide +kernel) rfl rfl (by simp only [mr_rt, if_pos]; rw [if_pos (Or.inl (by decide +kernel))]),
   fun v0 v1 v2 v4 v5 v6 x st h Q => gx_one (i := .iload_n 3) (len := 1) (by decide +kernel) rfl,
   fun v0 v1 v2 v3 v4 v5 v6 x st h Q => gx_br (i := .ifCond .ge 10) (len := 3) (c := .ge) (by decide +kernel) rfl rfl,
   fun v1 v2 v3 v4 v5 v6 x st h Q => gx_one (i := .aload_n 0) (len := 1) (by decide +kernel) rfl,
   fun v0 v1 v2 v3 v4 v5 v6 a st h Q => gx_get (x := 50) (by decide +kernel) (by decide +kernel),
   fun v0 v2 v3 v4 v5 v6 x st h Q => gx_one (i := .iload_n 1) (len := 1) (by decide +kernel) rfl,
   fun v0 v1 v2 v3 v4 v5 v6 a x st h Q => gx_iald (by decide +kernel),
   fun v0 v1 v2 v3 v4 v5 v6 x h Q => gx_ret (i := .ireturn) (len := 1) (by decide +kernel) rfl rfl (by simp only [mr_rt, if_pos]; rw [if_pos (Or.inl (by decide +kernel))]),
   fun v0 v2 v3 v4 v5 v6 x st h Q => gx_one (i := .iload_n 1) (len := 1) (by decide +kernel) rfl⟩
theorem S_mo_way_1 : (∀ (v0 v1 v2 v4 v5 v6 : Value) (w3 : Int32) (x : Int32) (st : List Value) (h : mr_h) (Q : Option Value → mr_h → Prop), mr_wp 164 67 [v0, v1, v2, .int w3, v4, v5, v6] (.int x :: st) h Q = mr_wp 164 69 [v0, v1, v2, .int w3, .int x, v5, v6] st h Q) ∧
    (∀ (v0 v1 v2 v3 v4 v5 v6 : Value) (st : List Value) (h : mr_h) (Q : Option Value → mr_h → Prop), mr_wp 164 69 [v0, v1, v2, v3, v4, v5, v6] st h Q = mr_wp 164 70 [v0, v1, v2, v3, v4, v5, v6] (.int (0) :: st) h Q) ∧
    (∀ (v0 v1 v2 v3 v5 v6 : Value) (w4 : Int32) (x : Int32) (st : List Value) (h : mr_h) (Q : Option Value → mr_h → Prop), mr_wp 164 70 [v0, v1, v2, v3, .int w4, v5, v6] (.int x :: st) h Q = mr_wp 164 72 [v0, v1, v2, v3, .int w4, .int x, v6] st h Q) ∧
    (∀ (v0 v1 v2 v4 v5 v6 : Value) (x : Int32) (st : List Value) (h : mr_h) (Q : Option Value → mr_h → Prop), mr_wp 164 74 [v0, v1, v2, .int x, v4, v5, v6] st h Q = mr_wp 164 75 [v0, v1, v2, .int x, v4, v5, v6] (.int x :: st) h Q) ∧
    (∀ (v0 v1 v2 v3 v4 v5 v6 : Value) (x : Int32) (y : Int32) (st : List Value) (h : mr_h) (Q : Option Value → mr_h → Prop), mr_wp 164 75 [v0, v1, v2, v3, v4, v5, v6] (.int y :: .int x :: st) h Q = if y ≤ x then mr_wp 164 133 [v0, v1, v2, v3, v4, v5, v6] st h Q else mr_wp 164 78 [v0, v1, v2, v3, v4, v5, v6] st h Q) ∧
    (∀ (v0 v1 v2 v3 v4 v5 v6 : Value) (st : List Value) (h : mr_h) (Q : Option Value → mr_h → Prop), mr_wp 164 78 [v0, v1, v2, v3, v4, v5, v6] st h Q = mr_wp 164 79 [v0, v1, v2, v3, v4, v5, v6] (.int (0) :: st) h Q) ∧
    (∀ (v0 v1 v2 v3 v4 v6 : Value) (w5 : Int32) (x : Int32) (st : List Value) (h : mr_h) (Q : Option Value → mr_h → Prop), mr_wp 164 79 [v0, v1, v2, v3, v4, .int w5, v6] (.int x :: st) h Q = mr_wp 164 81 [v0, v1, v2, v3, v4, .int w5, .int x] st h Q) ∧
    (∀ (v0 v1 v2 v3 v4 v5 v6 : Value) (a : Nat) (st : List Value) (h : mr_h) (Q : Option Value → mr_h → Prop), mr_wp 164 82 [v0, v1, v2, v3, v4, v5, v6] (.ref a :: st) h Q = mr_gf (h.1 a) 11 12 (fun v => mr_wp 164 85 [v0, v1, v2, v3, v4, v5, v6] (v :: st) h Q)) ∧
    (∀ (v0 v1 v2 v3 v4 v5 v6 : Value) (st : List Value) (h : mr_h) (Q : Option Value → mr_h → Prop), mr_wp 164 85 [v0, v1, v2, v3, v4, v5, v6] st h Q = mr_wp 164 86 [v0, v1, v2, v3, v4, v5, v6] (.int (0) :: st) h Q) ∧
    (∀ (v0 v1 v2 v3 v5 v6 : Value) (x : Int32) (st : List Value) (h : mr_h) (Q : Option Value → mr_h → Prop), mr_wp 164 86 [v0, v1, v2, v3, .int x, v5, v6] st h Q = mr_wp 164 88 [v0, v1, v2, v3, .int x, v5, v6] (.int x :: st) h Q) ∧
    (∀ (v0 v1 v2 v3 v4 v5 v6 : Value) (x : Int32) (y : Int32) (st : List Value) (h : mr_h) (Q : Option Value → mr_h → Prop), mr_wp 164 88 [v0, v1, v2, v3, v4, v5, v6] (.int y :: .int x :: st) h Q = mr_wp 164 89 [v0, v1, v2, v3, v4, v5, v6] (.int (x + y) :: st) h Q) ∧
    (∀ (v0 v1 v2 v3 v4 v5 v6 : Value) (a : Nat) (x : Int32) (st : List Value) (h : mr_h) (Q : Option Value → mr_h → Prop), mr_wp 164 89 [v0, v1, v2, v3, v4, v5, v6] (.int x :: .ref a :: st) h Q = mr_ai (h.1 a) x (fun v => mr_wp 164 90 [v0, v1, v2, v3, v4, v5, v6] (.int v :: st) h Q)) ∧
    (∀ (v0 v1 v2 v3 v4 v5 : Value) (x : Int32) (st : List Value) (h : mr_h) (Q : Option Value → mr_h → Prop), mr_wp 164 90 [v0, v1, v2, v3, v4, v5, .int x] st h Q = mr_wp 164 92 [v0, v1, v2, v3, v4, v5, .int x] (.int x :: st) h Q) ∧
    (∀ (v0 v1 v2 v3 v4 v5 v6 : Value) (a0 : Int32) (a1 : Int32) (h : mr_h) (Q : Option Value → mr_h → Prop), mr_wp 164 92 [v0, v1, v2, v3, v4, v5, v6] [.int a1, .int a0] h Q = mr_run 130 [.int a0, .int a1] h (fun v h' => mr_wp 164 95 [v0, v1, v2, v3, v4, v5, v6] (v.toList ++ []) h' Q)) ∧
    (∀ (v0 v1 v2 v3 v4 v5 v6 : Value) (x : Int32) (st : List Value) (h : mr_h) (Q : Option Value → mr_h → Prop), mr_wp 164 95 [v0, v1, v2, v3, v4, v5, v6] (.int x :: st) h Q = if x = 0 then mr_wp 164 117 [v0, v1, v2, v3, v4, v5, v6] st h Q else mr_wp 164 98 [v0, v1, v2, v3, v4, v5, v6] st h Q) ∧
    (∀ (v1 v2 v3 v4 v5 v6 : Value) (x : Nat) (st : List Value) (h : mr_h) (Q : Option Value → mr_h → Prop), mr_wp 164 98 [.ref x, v1, v2, v3, v4, v5, v6] st h Q = mr_wp 164 99 [.ref x, v1, v2, v3, v4, v5, v6] (.ref x :: st) h Q) ∧
    (∀ (v0 v1 v2 v3 v4 v5 v6 : Value) (a : Nat) (st : List Value) (h : mr_h) (Q : Option Value → mr_h → Prop), mr_wp 164 99 [v0, v1, v2, v3, v4, v5, v6] (.ref a :: st) h Q = mr_gf (h.1 a) 11 25 (fun v => mr_wp 164 102 [v0, v1, v2, v3, v4, v5, v6] (v :: st) h Q)) ∧
    (∀ (v0 v1 v2 v3 v4 v5 : Value) (x : Int32) (st : List Value) (h : mr_h) (Q : Option Value → mr_h → Prop), mr_wp 164 102 [v0, v1, v2, v3, v4, v5, .int x] st h Q = mr_wp 164 104 [v0, v1, v2, v3, v4, v5, .int x] (.int x :: st) h Q) ∧
    (∀ (v0 v1 v2 v3 v4 v5 v6 : Value) (a : Nat) (x : Int32) (st : List Value) (h : mr_h) (Q : Option Value → mr_h → Prop), mr_wp 164 104 [v0, v1, v2, v3, v4, v5, v6] (.int x :: .ref a :: st) h Q = mr_ai (h.1 a) x (fun v => mr_wp 164 105 [v0, v1, v2, v3, v4, v5, v6] (.int v :: st) h Q)) ∧
    (∀ (v1 v2 v3 v4 v5 v6 : Value) (x : Nat) (st : List Value) (h : mr_h) (Q : Option Value → mr_h → Prop), mr_wp 164 105 [.ref x, v1, v2, v3, v4, v5, v6] st h Q = mr_wp 164 106 [.ref x, v1, v2, v3, v4, v5, v6] (.ref x :: st) h Q) ∧
    (∀ (v0 v1 v2 v3 v4 v5 v6 : Value) (a : Nat) (st : List Value) (h : mr_h) (Q : Option Value → mr_h → Prop), mr_wp 164 106 [v0, v1, v2, v3, v4, v5, v6] (.ref a :: st) h Q = mr_gf (h.1 a) 11 25 (fun v => mr_wp 164 109 [v0, v1, v2, v3, v4, v5, v6] (v :: st) h Q)) ∧
    (∀ (v0 v1 v2 v3 v5 v6 : Value) (x : Int32) (st : List Value) (h : mr_h) (Q : Option Value → mr_h → Prop), mr_wp 164 109 [v0, v1, v2, v3, .int x, v5, v6] st h Q = mr_wp 164 111 [v0, v1, v2, v3, .int x, v5, v6] (.int x :: st) h Q) ∧
    (∀ (v0 v1 v2 v3 v4 v5 v6 : Value) (a : Nat) (x : Int32) (st : List Value) (h : mr_h) (Q : Option Value → mr_h → Prop), mr_wp 164 111 [v0, v1, v2, v3, v4, v5, v6] (.int x :: .ref a :: st) h Q = mr_ai (h.1 a) x (fun v => mr_wp 164 112 [v0, v1, v2, v3, v4, v5, v6] (.int v :: st) h Q)) ∧
    (∀ (v0 v1 v2 v3 v4 v5 v6 : Value) (st : List Value) (h : mr_h) (Q : Option Value → mr_h → Prop), mr_wp 164 112 [v0, v1, v2, v3, v4, v5, v6] st h Q = mr_wp 164 113 [v0, v1, v2, v3, v4, v5, v6] (.int (1) :: st) h Q) ∧
    (∀ (v0 v1 v2 v3 v4 v5 v6 : Value) (x : Int32) (y : Int32) (st : List Value) (h : mr_h) (Q : Option Value → mr_h → Prop), mr_wp 164 113 [v0, v1, v2, v3, v4, v5, v6] (.int y :: .int x :: st) h Q = mr_wp 164 114 [v0, v1, v2, v3, v4, v5, v6] (.int (x - y) :: st) h Q) ∧
    (∀ (v0 v1 v2 v3 v4 v5 v6 : Value) (x : Int32) (y : Int32) (st : List Value) (h : mr_h) (Q : Option Value → mr_h → Prop), mr_wp 164 114 [v0, v1, v2, v3, v4, v5, v6] (.int y :: .int x :: st) h Q = if x = y then mr_wp 164 123 [v0, v1, v2, v3, v4, v5, v6] st h Q else mr_wp 164 117 [v0, v1, v2, v3, v4, v5, v6] st h Q) ∧
    (∀ (v0 v1 v2 v3 v4 : Value) (x : Int32) (w5 : Int32) (st : List Value) (h : mr_h) (Q : Option Value → mr_h → Prop), mr_wp 164 117 [v0, v1, v2, v3, v4, .int w5, .int x] st h Q = mr_wp 164 120 [v0, v1, v2, v3, v4, .int w5, .int (x + (1))] st h Q) ∧
    (∀ (v0 v1 v2 v3 v4 v5 v6 : Value) (st : List Value) (h : mr_h) (Q : Option Value → mr_h → Prop), mr_wp 164 120 [v0, v1, v2, v3, v4, v5, v6] st h Q = mr_wp 164 81 [v0, v1, v2, v3, v4, v5, v6] st h Q) ∧
    (∀ (v0 v1 v2 v3 v4 v5 : Value) (x : Int32) (st : List Value) (h : mr_h) (Q : Option Value → mr_h → Prop), mr_wp 164 123 [v0, v1, v2, v3, v4, v5, .int x] st h Q = mr_wp 164 125 [v0, v1, v2, v3, v4, v5, .int x] (.int x :: st) h Q) ∧
    (∀ (v0 v1 v2 v4 v5 v6 : Value) (w3 : Int32) (x : Int32) (st : List Value) (h : mr_h) (Q : Option Value → mr_h → Prop), mr_wp 164 125 [v0, v1, v2, .int w3, v4, v5, v6] (.int x :: st) h Q = mr_wp 164 127 [v0, v1, v2, .int w3, .int x, v5, v6] st h Q) ∧
    (∀ (v0 v1 v2 v3 v6 : Value) (x : Int32) (w4 : Int32) (st : List Value) (h : mr_h) (Q : Option Value → mr_h → Prop), mr_wp 164 127 [v0, v1, v2, v3, .int w4, .int x, v6] st h Q = mr_wp 164 130 [v0, v1, v2, v3, .int w4, .int (x + (1)), v6] st h Q) ∧
    (∀ (v0 v1 v2 v3 v4 v5 v6 : Value) (st : List Value) (h : mr_h) (Q : Option Value → mr_h → Prop), mr_wp 164 130 [v0, v1, v2, v3, v4, v5, v6] st h Q = mr_wp 164 72 [v0, v1, v2, v3, v4, v5, v6] st h Q) ∧
    (∀ (v0 v1 v2 v3 v5 v6 : Value) (x : Int32) (st : List Value) (h : mr_h) (Q : Option Value → mr_h → Prop), mr_wp 164 133 [v0, v1, v2, v3, .int x, v5, v6] st h Q = mr_wp 164 135 [v0, v1, v2, v3, .int x, v5, v6] (.int x :: st) h Q) ∧
    (∀ (v0 v1 v2 v3 v4 v5 v6 : Value) (x : Int32) (h : mr_h) (Q : Option Value → mr_h → Prop), mr_wp 164 135 [v0, v1, v2, v3, v4, v5, v6] [.int x] h Q = Q (some (.int x)) h) :=
  ⟨fun v0 v1 v2 v4 v5 v6 w3 x st h Q => gx_one (i := .istore 4) (len := 2) (by decide +kernel) rfl,
   fun v0 v1 v2 v3 v4 v5 v6 st h Q => gx_one (i := .iconst 0) (len := 1) (by decide +kernel) rfl,
   fun v0 v1 v2 v3 v5 v6 w4 x st h Q => gx_one (i := .istore 5) (len := 2) (by decide +kernel) rfl,
   fun v0 v1 v2 v4 v5 v6 x st h Q => gx_one (i := .iload_n 3) (len := 1) (by decide +kernel) rfl,
   fun v0 v1 v2 v3 v4 v5 v6 x y st h Q => gx_br (i := .if_icmp .ge 58) (len := 3) (c := .ge) (by decide +kernel) rfl rfl,
   fun v0 v1 v2 v3 v4 v5 v6 st h Q => gx_one (i := .iconst 0) (len := 1) (by decide +kernel) rfl,
   fun v0 v1 v2 v3 v4 v6 w5 x st h Q => gx_one (i := .istore 6) (len := 2) (by decide +kernel) rfl,
   fun v0 v1 v2 v3 v4 v5 v6 a st h Q => gx_get (x := 16) (by decide +kernel) (by decide +kernel),
   fun v0 v1 v2 v3 v4 v5 v6 st h Q => gx_one (i := .iconst 0) (len := 1) (by decide +kernel) rfl,
   fun v0 v1 v2 v3 v5 v6 x st h Q => gx_one (i := .iload 4) (len := 2) (by decide +kernel) rfl,
   fun v0 v1 v2 v3 v4 v5 v6 x y st h Q => gx_one (i := .iadd) (len := 1) (by decide +kernel) rfl,
   fun v0 v1 v2 v3 v4 v5 v6 a x st h Q => gx_iald (by decide +kernel),
   fun v0 v1 v2 v3 v4 v5 x st h Q => gx_one (i := .iload 6) (len := 2) (by decide +kernel) rfl,
   fun v0 v1 v2 v3 v4 v5 v6 a0 a1 h Q => gx_stat (x := 116) (t := 130) (n := 2) (by decide +kernel) (by decide +kernel) (by decide) (by decide +kernel) rfl (Or.inl (Nat.le_of_ble_eq_true rfl)) (by show _ ≤ mr_mxl 130; rw [show mr_mxl 130 = 2 from by decide +kernel]; exact Nat.le_of_ble_eq_true rfl),
   fun v0 v1 v2 v3 v4 v5 v6 x st h Q => gx_br (i := .ifCond .eq 22) (len := 3) (c := .eq) (by decide +kernel) rfl rfl,
   fun v1 v2 v3 v4 v5 v6 x st h Q => gx_one (i := .aload_n 0) (len := 1) (by decide +kernel) rfl,
   fun v0 v1 v2 v3 v4 v5 v6 a st h Q => gx_get (x := 50) (by decide +kernel) (by decide +kernel),
   fun v0 v1 v2 v3 v4 v5 x st h Q => gx_one (i := .iload 6) (len := 2) (by decide +kernel) rfl,
   fun v0 v1 v2 v3 v4 v5 v6 a x st h Q => gx_iald (by decide +kernel),
   fun v1 v2 v3 v4 v5 v6 x st h Q => gx_one (i := .aload_n 0) (len := 1) (by decide +kernel) rfl,
   fun v0 v1 v2 v3 v4 v5 v6 a st h Q => gx_get (x := 50) (by decide +kernel) (by decide +kernel),
   fun v0 v1 v2 v3 v5 v6 x st h Q => gx_one (i := .iload 4) (len := 2) (by decide +kernel) rfl,
   fun v0 v1 v2 v3 v4 v5 v6 a x st h Q => gx_iald (by decide +kernel),
   fun v0 v1 v2 v3 v4 v5 v6 st h Q => gx_one (i := .iconst 1) (len := 1) (by decide +kernel) rfl,
   fun v0 v1 v2 v3 v4 v5 v6 x y st h Q => gx_one (i := .isub) (len := 1) (by decide +kernel) rfl,
   fun v0 v1 v2 v3 v4 v5 v6 x y st h Q => gx_br (i := .if_icmp .eq 9) (len := 3) (c := .eq) (by decide +kernel) rfl rfl,
   fun v0 v1 v2 v3 v4 x w5 st h Q => gx_one (i := .iinc 6 1) (len := 3) (by decide +kernel) rfl,
   fun v0 v1 v2 v3 v4 v5 v6 st h Q => gx_one (i := .goto (-39)) (len := 3) (by decide +kernel) rfl,
   fun v0 v1 v2 v3 v4 v5 x st h Q => gx_one (i := .iload 6) (len := 2) (by decide +kernel) rfl,
   fun v0 v1 v2 v4 v5 v6 w3 x st h Q => gx_one (i := .istore 4) (len := 2) (by decide +kernel) rfl,
   fun v0 v1 v2 v3 v6 x w4 st h Q => gx_one (i := .iinc 5 1) (len := 3) (by decide +kernel) rfl,
   fun v0 v1 v2 v3 v4 v5 v6 st h Q => gx_one (i := .goto (-58)) (len := 3) (by decide +kernel) rfl,
   fun v0 v1 v2 v3 v5 v6 x st h Q => gx_one (i := .iload 4) (len := 2) (by decide +kernel) rfl,
   fun v0 v1 v2 v3 v4 v5 v6 x h Q => gx_ret (i := .ireturn) (len := 1) (by decide +kernel) rfl rfl (by simp only [mr_rt, if_pos]; rw [if_pos (Or.inl (by decide +kernel))])⟩

theorem s_mo_measures_2 (v0 v1 v3 v4 : Value) (x : Int32) (st : List Value) (h : mr_h) (Q : Option Value → mr_h → Prop) : mr_wp 165 2 [v0, v1, .int x, v3, v4] st h Q = mr_wp 165 3 [v0, v1, .int x, v3, v4] (.int x :: st) h Q := gx_one (i := .iload_n 2) (len := 1) (by decide +kernel) rfl
theorem s_mo_measures_34 (v0 v1 v3 v4 : Value) (x : Int32) (st : List Value) (h : mr_h) (Q : Option Value → mr_h → Prop) : mr_wp 165 34 [v0, v1, .int x, v3, v4] st h Q = mr_wp 165 35 [v0, v1, .int x, v3, v4] (.int x :: st) h Q := gx_one (i := .iload_n 2) (len := 1) (by decide +kernel) rfl
theorem s_mo_measures_44 (v0 v1 v2 v4 : Value) (x : Int32) (st : List Value) (h : mr_h) (Q : Option Value → mr_h → Prop) : mr_wp 165 44 [v0, v1, v2, .int x, v4] st h Q = mr_wp 165 45 [v0, v1, v2, .int x, v4] (.int x :: st) h Q := gx_one (i := .iload_n 3) (len := 1) (by decide +kernel) rfl
theorem s_mo_measures_55 (v0 v1 v2 v3 : Value) (x : Int32) (st : List Value) (h : mr_h) (Q : Option Value → mr_h → Prop) : mr_wp 165 55 [v0, v1, v2, v3, .int x] st h Q = mr_wp 165 57 [v0, v1, v2, v3, .int x] (.int x :: st) h Q := gx_one (i := .iload 4) (len := 2) (by decide +kernel) rfl
theorem S_mo_measures_0 : (∀ (v0 v1 v2 v3 v4 : Value) (st : List Value) (h : mr_h) (Q : Option Value → mr_h → Prop), mr_wp 165 0 [v0, v1, v2, v3, v4] st h Q = mr_wp 165 1 [v0, v1, v2, v3, v4] (.int (0) :: st) h Q) ∧
    (∀ (v0 v2 v3 v4 : Value) (w1 : Int32) (x : Int32) (st : List Value) (h : mr_h) (Q : Option Value → mr_h → Prop), mr_wp 165 1 [v0, .int w1, v2, v3, v4] (.int x :: st) h Q = mr_wp 165 2 [v0, .int w1, .int x, v3, v4] st h Q) ∧
    (∀ (v1 v2 v3 v4 : Value) (x : Nat) (st : List Value) (h : mr_h) (Q : Option Value → mr_h → Prop), mr_wp 165 3 [.ref x, v1, v2, v3, v4] st h Q = mr_wp 165 4 [.ref x, v1, v2, v3, v4] (.ref x :: st) h Q) ∧
    (∀ (v0 v1 v2 v3 v4 : Value) (a : Nat) (st : List Value) (h : mr_h) (Q : Option Value → mr_h → Prop), mr_wp 165 4 [v0, v1, v2, v3, v4] (.ref a :: st) h Q = mr_gf (h.1 a) 11 8 (fun v => mr_wp 165 7 [v0, v1, v2, v3, v4] (v :: st) h Q)) ∧
    (∀ (v0 v1 v2 v3 v4 : Value) (x : Int32) (y : Int32) (st : List Value) (h : mr_h) (Q : Option Value → mr_h → Prop), mr_wp 165 7 [v0, v1, v2, v3, v4] (.int y :: .int x :: st) h Q = if y ≤ x then mr_wp 165 32 [v0, v1, v2, v3, v4] st h Q else mr_wp 165 10 [v0, v1, v2, v3, v4] st h Q) ∧
    (∀ (v1 v2 v3 v4 : Value) (x : Nat) (st : List Value) (h : mr_h) (Q : Option Value → mr_h → Prop), mr_wp 165 10 [.ref x, v1, v2, v3, v4] st h Q = mr_wp 165 11 [.ref x, v1, v2, v3, v4] (.ref x :: st) h Q) ∧
    (∀ (v0 v1 v2 v3 v4 : Value) (a : Nat) (st : List Value) (h : mr_h) (Q : Option Value → mr_h → Prop), mr_wp 165 11 [v0, v1, v2, v3, v4] (.ref a :: st) h Q = mr_gf (h.1 a) 11 25 (fun v => mr_wp 165 14 [v0, v1, v2, v3, v4] (v :: st) h Q)) ∧
    (∀ (v0 v1 v3 v4 : Value) (x : Int32) (st : List Value) (h : mr_h) (Q : Option Value → mr_h → Prop), mr_wp 165 14 [v0, v1, .int x, v3, v4] st h Q = mr_wp 165 15 [v0, v1, .int x, v3, v4] (.int x :: st) h Q) ∧
    (∀ (v0 v1 v3 v4 : Value) (x : Int32) (st : List Value) (h : mr_h) (Q : Option Value → mr_h → Prop), mr_wp 165 15 [v0, v1, .int x, v3, v4] st h Q = mr_wp 165 16 [v0, v1, .int x, v3, v4] (.int x :: st) h Q) ∧
    (∀ (v0 v2 v3 v4 : Value) (x : Int32) (st : List Value) (h : mr_h) (Q : Option Value → mr_h → Prop), mr_wp 165 16 [v0, .int x, v2, v3, v4] st h Q = mr_wp 165 17 [v0, .int x, v2, v3, v4] (.int x :: st) h Q) ∧
    (∀ (v0 v1 v2 v3 v4 : Value) (x : Int32) (y : Int32) (st : List Value) (h : mr_h) (Q : Option Value → mr_h → Prop), mr_wp 165 17 [v0, v1, v2, v3, v4] (.int y :: .int x :: st) h Q = if ¬ x = y then mr_wp 165 24 [v0, v1, v2, v3, v4] st h Q else mr_wp 165 20 [v0, v1, v2, v3, v4] st h Q) ∧
    (∀ (v0 v1 v2 v3 v4 : Value) (st : List Value) (h : mr_h) (Q : Option Value → mr_h → Prop), mr_wp 165 20 [v0, v1, v2, v3, v4] st h Q = mr_wp 165 21 [v0, v1, v2, v3, v4] (.int (0) :: st) h Q) ∧
    (∀ (v0 v1 v2 v3 v4 : Value) (st : List Value) (h : mr_h) (Q : Option Value → mr_h → Prop), mr_wp 165 21 [v0, v1, v2, v3, v4] st h Q = mr_wp 165 25 [v0, v1, v2, v3, v4] st h Q) ∧
    (∀ (v0 v1 v2 v3 v4 : Value) (st : List Value) (h : mr_h) (Q : Option Value → mr_h → Prop), mr_wp 165 24 [v0, v1, v2, v3, v4] st h Q = mr_wp 165 25 [v0, v1, v2, v3, v4] (.int (-1) :: st) h Q) ∧
    (∀ (v0 v1 v2 v3 v4 : Value) (a : Nat) (x : Int32) (y : Int32) (st : List Value) (h : mr_h) (Q : Option Value → mr_h → Prop), mr_wp 165 25 [v0, v1, v2, v3, v4] (.int y :: .int x :: .ref a :: st) h Q = mr_si (h.1 a) x y (fun c => mr_wp 165 26 [v0, v1, v2, v3, v4] st (mr_up h a c) Q)) ∧
    (∀ (v0 v3 v4 : Value) (x : Int32) (w1 : Int32) (st : List Value) (h : mr_h) (Q : Option Value → mr_h → Prop), mr_wp 165 26 [v0, .int w1, .int x, v3, v4] st h Q = mr_wp 165 29 [v0, .int w1, .int (x + (1)), v3, v4] st h Q) ∧
    (∀ (v0 v1 v2 v3 v4 : Value) (st : List Value) (h : mr_h) (Q : Option Value → mr_h → Prop), mr_wp 165 29 [v0, v1, v2, v3, v4] st h Q = mr_wp 165 2 [v0, v1, v2, v3, v4] st h Q) ∧
    (∀ (v0 v1 v2 v3 v4 : Value) (st : List Value) (h : mr_h) (Q : Option Value → mr_h → Prop), mr_wp 165 32 [v0, v1, v2, v3, v4] st h Q = mr_wp 165 33 [v0, v1, v2, v3, v4] (.int (1) :: st) h Q) ∧
    (∀ (v0 v2 v3 v4 : Value) (w1 : Int32) (x : Int32) (st : List Value) (h : mr_h) (Q : Option Value → mr_h → Prop), mr_wp 165 33 [v0, .int w1, v2, v3, v4] (.int x :: st) h Q = mr_wp 165 34 [v0, .int w1, .int x, v3, v4] st h Q) ∧
    (∀ (v1 v2 v3 v4 : Value) (x : Nat) (st : List Value) (h : mr_h) (Q : Option Value → mr_h → Prop), mr_wp 165 35 [.ref x, v1, v2, v3, v4] st h Q = mr_wp 165 36 [.ref x, v1, v2, v3, v4] (.ref x :: st) h Q) ∧
    (∀ (v0 v1 v2 v3 v4 : Value) (a : Nat) (st : List Value) (h : mr_h) (Q : Option Value → mr_h → Prop), mr_wp 165 36 [v0, v1, v2, v3, v4] (.ref a :: st) h Q = mr_gf (h.1 a) 11 8 (fun v => mr_wp 165 39 [v0, v1, v2, v3, v4] (v :: st) h Q)) ∧
    (∀ (v0 v1 v2 v3 v4 : Value) (x : Int32) (y : Int32) (st : List Value) (h : mr_h) (Q : Option Value → mr_h → Prop), mr_wp 165 39 [v0, v1, v2, v3, v4] (.int y :: .int x :: st) h Q = if y ≤ x then mr_wp 165 136 [v0, v1, v2, v3, v4] st h Q else mr_wp 165 42 [v0, v1, v2, v3, v4] st h Q) ∧
    (∀ (v0 v1 v2 v3 v4 : Value) (st : List Value) (h : mr_h) (Q : Option Value → mr_h → Prop), mr_wp 165 42 [v0, v1, v2, v3, v4] st h Q = mr_wp 165 43 [v0, v1, v2, v3, v4] (.int (0) :: st) h Q) ∧
    (∀ (v0 v1 v3 v4 : Value) (w2 : Int32) (x : Int32) (st : List Value) (h : mr_h) (Q : Option Value → mr_h → Prop), mr_wp 165 43 [v0, v1, .int w2, v3, v4] (.int x :: st) h Q = mr_wp 165 44 [v0, v1, .int w2, .int x, v4] st h Q) ∧
    (∀ (v1 v2 v3 v4 : Value) (x : Nat) (st : List Value) (h : mr_h) (Q : Option Value → mr_h → Prop), mr_wp 165 45 [.ref x, v1, v2, v3, v4] st h Q = mr_wp 165 46 [.ref x, v1, v2, v3, v4] (.ref x :: st) h Q) ∧
    (∀ (v0 v1 v2 v3 v4 : Value) (a : Nat) (st : List Value) (h : mr_h) (Q : Option Value → mr_h → Prop), mr_wp 165 46 [v0, v1, v2, v3, v4] (.ref a :: st) h Q = mr_gf (h.1 a) 11 8 (fun v => mr_wp 165 49 [v0, v1, v2, v3, v4] (v :: st) h Q)) ∧
    (∀ (v0 v1 v2 v3 v4 : Value) (x : Int32) (y : Int32) (st : List Value) (h : mr_h) (Q : Option Value → mr_h → Prop), mr_wp 165 49 [v0, v1, v2, v3, v4] (.int y :: .int x :: st) h Q = if y ≤ x then mr_wp 165 130 [v0, v1, v2, v3, v4] st h Q else mr_wp 165 52 [v0, v1, v2, v3, v4] st h Q) ∧
    (∀ (v0 v1 v2 v3 v4 : Value) (st : List Value) (h : mr_h) (Q : Option Value → mr_h → Prop), mr_wp 165 52 [v0, v1, v2, v3, v4] st h Q = mr_wp 165 53 [v0, v1, v2, v3, v4] (.int (0) :: st) h Q) ∧
    (∀ (v0 v1 v2 v4 : Value) (w3 : Int32) (x : Int32) (st : List Value) (h : mr_h) (Q : Option Value → mr_h → Prop), mr_wp 165 53 [v0, v1, v2, .int w3, v4] (.int x :: st) h Q = mr_wp 165 55 [v0, v1, v2, .int w3, .int x] st h Q) ∧
    (∀ (v1 v2 v3 v4 : Value) (x : Nat) (st : List Value) (h : mr_h) (Q : Option Value → mr_h → Prop), mr_wp 165 57 [.ref x, v1, v2, v3, v4] st h Q = mr_wp 165 58 [.ref x, v1, v2, v3, v4] (.ref x :: st) h Q) ∧
    (∀ (v0 v1 v2 v3 v4 : Value) (a : Nat) (st : List Value) (h : mr_h) (Q : Option Value → mr_h → Prop), mr_wp 165 58 [v0, v1, v2, v3, v4] (.ref a :: st) h Q = mr_gf (h.1 a) 11 8 (fun v => mr_wp 165 61 [v0, v1, v2, v3, v4] (v :: st) h Q)) ∧
    (∀ (v0 v1 v2 v3 v4 : Value) (x : Int32) (y : Int32) (st : List Value) (h : mr_h) (Q : Option Value → mr_h → Prop), mr_wp 165 61 [v0, v1, v2, v3, v4] (.int y :: .int x :: st) h Q = if y ≤ x then mr_wp 165 124 [v0, v1, v2, v3, v4] st h Q else mr_wp 165 64 [v0, v1, v2, v3, v4] st h Q) ∧
    (∀ (v1 v2 v3 v4 : Value) (x : Nat) (st : List Value) (h : mr_h) (Q : Option Value → mr_h → Prop), mr_wp 165 64 [.ref x, v1, v2, v3, v4] st h Q = mr_wp 165 65 [.ref x, v1, v2, v3, v4] (.ref x :: st) h Q) ∧
    (∀ (v0 v1 v2 v3 v4 : Value) (a : Nat) (st : List Value) (h : mr_h) (Q : Option Value → mr_h → Prop), mr_wp 165 65 [v0, v1, v2, v3, v4] (.ref a :: st) h Q = mr_gf (h.1 a) 11 25 (fun v => mr_wp 165 68 [v0, v1, v2, v3, v4] (v :: st) h Q)) ∧
    (∀ (v0 v1 v2 v4 : Value) (x : Int32) (st : List Value) (h : mr_h) (Q : Option Value → mr_h → Prop), mr_wp 165 68 [v0, v1, v2, .int x, v4] st h Q = mr_wp 165 69 [v0, v1, v2, .int x, v4] (.int x :: st) h Q) ∧
    (∀ (v0 v1 v2 v3 v4 : Value) (a : Nat) (x : Int32) (st : List Value) (h : mr_h) (Q : Option Value → mr_h → Prop), mr_wp 165 69 [v0, v1, v2, v3, v4] (.int x :: .ref a :: st) h Q = mr_ai (h.1 a) x (fun v => mr_wp 165 70 [v0, v1, v2, v3, v4] (.int v :: st) h Q)) ∧
    (∀ (v0 v1 v2 v3 v4 : Value) (x : Int32) (st : List Value) (h : mr_h) (Q : Option Value → mr_h → Prop), mr_wp 165 70 [v0, v1, v2, v3, v4] (.int x :: st) h Q = if 0 ≤ x then mr_wp 165 124 [v0, v1, v2, v3, v4] st h Q else mr_wp 165 73 [v0, v1, v2, v3, v4] st h Q) ∧
    (∀ (v1 v2 v3 v4 : Value) (x : Nat) (st : List Value) (h : mr_h) (Q : Option Value → mr_h → Prop), mr_wp 165 73 [.ref x, v1, v2, v3, v4] st h Q = mr_wp 165 74 [.ref x, v1, v2, v3, v4] (.ref x :: st) h Q) ∧
    (∀ (v0 v1 v2 v3 v4 : Value) (a : Nat) (st : List Value) (h : mr_h) (Q : Option Value → mr_h → Prop), mr_wp 165 74 [v0, v1, v2, v3, v4] (.ref a :: st) h Q = mr_gf (h.1 a) 11 25 (fun v => mr_wp 165 77 [v0, v1, v2, v3, v4] (v :: st) h Q)) ∧
    (∀ (v0 v1 v2 v4 : Value) (x : Int32) (st : List Value) (h : mr_h) (Q : Option Value → mr_h → Prop), mr_wp 165 77 [v0, v1, v2, .int x, v4] st h Q = mr_wp 165 78 [v0, v1, v2, .int x, v4] (.int x :: st) h Q) :=
  ⟨fun v0 v1 v2 v3 v4 st h Q => gx_one (i := .iconst 0) (len := 1) (by decide +kernel) rfl,
   fun v0 v2 v3 v4 w1 x st h Q => gx_one (i := .istore_n 2) (len := 1) (by decide +kernel) rfl,
   fun v1 v2 v3 v4 x st h Q => gx_one (i := .aload_n 0) (len := 1) (by decide +kernel) rfl,
   fun v0 v1 v2 v3 v4 a st h Q => gx_get (x := 123) (by decide +kernel) (by decide +kernel),
   fun v0 v1 v2 v3 v4 x y st h Q => gx_br (i := .if_icmp .ge 25) (len := 3) (c := .ge) (by decide +kernel) rfl rfl,
   fun v1 v2 v3 v4 x st h Q => gx_one (i := .aload_n 0) (len := 1) (by decide +kernel) rfl,
   fun v0 v1 v2 v3 v4 a st h Q => gx_get (x := 50) (by decide +kernel) (by decide +kernel),
   fun v0 v1 v3 v4 x st h Q => gx_one (i := .iload_n 2) (len := 1) (by decide +kernel) rfl,
   fun v0 v1 v3 v4 x st h Q => gx_one (i := .iload_n 2) (len := 1) (by decide +kernel) rfl,
   fun v0 v2 v3 v4 x st h Q => gx_one (i := .iload_n 1) (len := 1) (by decide +kernel) rfl,
   fun v0 v1 v2 v3 v4 x y st h Q => gx_br (i := .if_icmp .ne 7) (len := 3) (c := .ne) (by decide +kernel) rfl rfl,
   fun v0 v1 v2 v3 v4 st h Q => gx_one (i := .iconst 0) (len := 1) (by decide +kernel) rfl,
   fun v0 v1 v2 v3 v4 st h Q => gx_one (i := .goto 4) (len := 3) (by decide +kernel) rfl,
   fun v0 v1 v2 v3 v4 st h Q => gx_one (i := .iconst (-1)) (len := 1) (by decide +kernel) rfl,
   fun v0 v1 v2 v3 v4 a x y st h Q => gx_iast (by decide +kernel),
   fun v0 v3 v4 x w1 st h Q => gx_one (i := .iinc 2 1) (len := 3) (by decide +kernel) rfl,
   fun v0 v1 v2 v3 v4 st h Q => gx_one (i := .goto (-27)) (len := 3) (by decide +kernel) rfl,
   fun v0 v1 v2 v3 v4 st h Q => gx_one (i := .iconst 1) (len := 1) (by decide +kernel) rfl,
   fun v0 v2 v3 v4 w1 x st h Q => gx_one (i := .istore_n 2) (len := 1) (by decide +kernel) rfl,
   fun v1 v2 v3 v4 x st h Q => gx_one (i := .aload_n 0) (len := 1) (by decide +kernel) rfl,
   fun v0 v1 v2 v3 v4 a st h Q => gx_get (x := 123) (by decide +kernel) (by decide +kernel),
   fun v0 v1 v2 v3 v4 x y st h Q => gx_br (i := .if_icmp .ge 97) (len := 3) (c := .ge) (by decide +kernel) rfl rfl,
   fun v0 v1 v2 v3 v4 st h Q => gx_one (i := .iconst 0) (len := 1) (by decide +kernel) rfl,
   fun v0 v1 v3 v4 w2 x st h Q => gx_one (i := .istore_n 3) (len := 1) (by decide +kernel) rfl,
   fun v1 v2 v3 v4 x st h Q => gx_one (i := .aload_n 0) (len := 1) (by decide +kernel) rfl,
   fun v0 v1 v2 v3 v4 a st h Q => gx_get (x := 123) (by decide +kernel) (by decide +kernel),
   fun v0 v1 v2 v3 v4 x y st h Q => gx_br (i := .if_icmp .ge 81) (len := 3) (c := .ge) (by decide +kernel) rfl rfl,
   fun v0 v1 v2 v3 v4 st h Q => gx_one (i := .iconst 0) (len := 1) (by decide +kernel) rfl,
   fun v0 v1 v2 v4 w3 x st h Q => gx_one (i := .istore 4) (len := 2) (by decide +kernel) rfl,
   fun v1 v2 v3 v4 x st h Q => gx_one (i := .aload_n 0) (len := 1) (by decide +kernel) rfl,
   fun v0 v1 v2 v3 v4 a st h Q => gx_get (x := 123) (by decide +kernel) (by decide +kernel),
   fun v0 v1 v2 v3 v4 x y st h Q => gx_br (i := .if_icmp .ge 63) (len := 3) (c := .ge) (by decide +kernel) rfl rfl,
   fun v1 v2 v3 v4 x st h Q => gx_one (i := .aload_n 0) (len := 1) (by decide +kernel) rfl,
   fun v0 v1 v2 v3 v4 a st h Q => gx_get (x := 50) (by decide +kernel) (by decide +kernel),
   fun v0 v1 v2 v4 x st h Q => gx_one (i := .iload_n 3) (len := 1) (by decide +kernel) rfl,
   fun v0 v1 v2 v3 v4 a x st h Q => gx_iald (by decide +kernel),
   fun v0 v1 v2 v3 v4 x st h Q => gx_br (i := .ifCond .ge 54) (len := 3) (c := .ge) (by decide +kernel) rfl rfl,
   fun v1 v2 v3 v4 x st h Q => gx_one (i := .aload_n 0) (len := 1) (by decide +kernel) rfl,
   fun v0 v1 v2 v3 v4 a st h Q => gx_get (x := 50) (by decide +kernel) (by decide +kernel),
   fun v0 v1 v2 v4 x st h Q => gx_one (i := .iload_n 3) (len := 1) (by decide +kernel) rfl⟩
theorem S_mo_measures_1 : (∀ (v1 v2 v3 v4 : Value) (x : Nat) (st : List Value) (h : mr_h) (Q : Option Value → mr_h → Prop), mr_wp 165 78 [.ref x, v1, v2, v3, v4] st h Q = mr_wp 165 79 [.ref x, v1, v2, v3, v4] (.ref x :: st) h Q) ∧
    (∀ (v0 v1 v2 v3 v4 : Value) (a : Nat) (st : List Value) (h : mr_h) (Q : Option Value → mr_h → Prop), mr_wp 165 79 [v0, v1, v2, v3, v4] (.ref a :: st) h Q = mr_gf (h.1 a) 11 12 (fun v => mr_wp 165 82 [v0, v1, v2, v3, v4] (v :: st) h Q)) ∧
    (∀ (v0 v1 v2 v3 v4 : Value) (st : List Value) (h : mr_h) (Q : Option Value → mr_h → Prop), mr_wp 165 82 [v0, v1, v2, v3, v4] st h Q = mr_wp 165 83 [v0, v1, v2, v3, v4] (.int (0) :: st) h Q) ∧
    (∀ (v0 v1 v2 v4 : Value) (x : Int32) (st : List Value) (h : mr_h) (Q : Option Value → mr_h → Prop), mr_wp 165 83 [v0, v1, v2, .int x, v4] st h Q = mr_wp 165 84 [v0, v1, v2, .int x, v4] (.int x :: st) h Q) ∧
    (∀ (v0 v1 v2 v3 v4 : Value) (x : Int32) (y : Int32) (st : List Value) (h : mr_h) (Q : Option Value → mr_h → Prop), mr_wp 165 84 [v0, v1, v2, v3, v4] (.int y :: .int x :: st) h Q = mr_wp 165 85 [v0, v1, v2, v3, v4] (.int (x + y) :: st) h Q) ∧
    (∀ (v0 v1 v2 v3 v4 : Value) (a : Nat) (x : Int32) (st : List Value) (h : mr_h) (Q : Option Value → mr_h → Prop), mr_wp 165 85 [v0, v1, v2, v3, v4] (.int x :: .ref a :: st) h Q = mr_ai (h.1 a) x (fun v => mr_wp 165 86 [v0, v1, v2, v3, v4] (.int v :: st) h Q)) ∧
    (∀ (v0 v1 v2 v3 : Value) (x : Int32) (st : List Value) (h : mr_h) (Q : Option Value → mr_h → Prop), mr_wp 165 86 [v0, v1, v2, v3, .int x] st h Q = mr_wp 165 88 [v0, v1, v2, v3, .int x] (.int x :: st) h Q) ∧
    (∀ (v0 v1 v2 v3 v4 : Value) (a0 : Int32) (a1 : Int32) (r0 : Value) (r1 : Value) (h : mr_h) (Q : Option Value → mr_h → Prop), mr_wp 165 88 [v0, v1, v2, v3, v4] [.int a1, .int a0, r0, r1] h Q = mr_run 130 [.int a0, .int a1] h (fun v h' => mr_wp 165 91 [v0, v1, v2, v3, v4] (v.toList ++ [r0, r1]) h' Q)) ∧
    (∀ (v0 v1 v2 v3 v4 : Value) (x : Int32) (st : List Value) (h : mr_h) (Q : Option Value → mr_h → Prop), mr_wp 165 91 [v0, v1, v2, v3, v4] (.int x :: st) h Q = if x = 0 then mr_wp 165 111 [v0, v1, v2, v3, v4] st h Q else mr_wp 165 94 [v0, v1, v2, v3, v4] st h Q) ∧
    (∀ (v1 v2 v3 v4 : Value) (x : Nat) (st : List Value) (h : mr_h) (Q : Option Value → mr_h → Prop), mr_wp 165 94 [.ref x, v1, v2, v3, v4] st h Q = mr_wp 165 95 [.ref x, v1, v2, v3, v4] (.ref x :: st) h Q) ∧
    (∀ (v0 v1 v2 v3 v4 : Value) (a : Nat) (st : List Value) (h : mr_h) (Q : Option Value → mr_h → Prop), mr_wp 165 95 [v0, v1, v2, v3, v4] (.ref a :: st) h Q = mr_gf (h.1 a) 11 25 (fun v => mr_wp 165 98 [v0, v1, v2, v3, v4] (v :: st) h Q)) ∧
    (∀ (v0 v1 v2 v3 : Value) (x : Int32) (st : List Value) (h : mr_h) (Q : Option Value → mr_h → Prop), mr_wp 165 98 [v0, v1, v2, v3, .int x] st h Q = mr_wp 165 100 [v0, v1, v2, v3, .int x] (.int x :: st) h Q) ∧
    (∀ (v0 v1 v2 v3 v4 : Value) (a : Nat) (x : Int32) (st : List Value) (h : mr_h) (Q : Option Value → mr_h → Prop), mr_wp 165 100 [v0, v1, v2, v3, v4] (.int x :: .ref a :: st) h Q = mr_ai (h.1 a) x (fun v => mr_wp 165 101 [v0, v1, v2, v3, v4] (.int v :: st) h Q)) ∧
    (∀ (v0 v1 v3 v4 : Value) (x : Int32) (st : List Value) (h : mr_h) (Q : Option Value → mr_h → Prop), mr_wp 165 101 [v0, v1, .int x, v3, v4] st h Q = mr_wp 165 102 [v0, v1, .int x, v3, v4] (.int x :: st) h Q) ∧
    (∀ (v0 v1 v2 v3 v4 : Value) (st : List Value) (h : mr_h) (Q : Option Value → mr_h → Prop), mr_wp 165 102 [v0, v1, v2, v3, v4] st h Q = mr_wp 165 103 [v0, v1, v2, v3, v4] (.int (1) :: st) h Q) ∧
    (∀ (v0 v1 v2 v3 v4 : Value) (x : Int32) (y : Int32) (st : List Value) (h : mr_h) (Q : Option Value → mr_h → Prop), mr_wp 165 103 [v0, v1, v2, v3, v4] (.int y :: .int x :: st) h Q = mr_wp 165 104 [v0, v1, v2, v3, v4] (.int (x - y) :: st) h Q) ∧
    (∀ (v0 v1 v2 v3 v4 : Value) (x : Int32) (y : Int32) (st : List Value) (h : mr_h) (Q : Option Value → mr_h → Prop), mr_wp 165 104 [v0, v1, v2, v3, v4] (.int y :: .int x :: st) h Q = if ¬ x = y then mr_wp 165 111 [v0, v1, v2, v3, v4] st h Q else mr_wp 165 107 [v0, v1, v2, v3, v4] st h Q) ∧
    (∀ (v0 v1 v3 v4 : Value) (x : Int32) (st : List Value) (h : mr_h) (Q : Option Value → mr_h → Prop), mr_wp 165 107 [v0, v1, .int x, v3, v4] st h Q = mr_wp 165 108 [v0, v1, .int x, v3, v4] (.int x :: st) h Q) ∧
    (∀ (v0 v1 v2 v3 v4 : Value) (st : List Value) (h : mr_h) (Q : Option Value → mr_h → Prop), mr_wp 165 108 [v0, v1, v2, v3, v4] st h Q = mr_wp 165 117 [v0, v1, v2, v3, v4] st h Q) ∧
    (∀ (v1 v2 v3 v4 : Value) (x : Nat) (st : List Value) (h : mr_h) (Q : Option Value → mr_h → Prop), mr_wp 165 111 [.ref x, v1, v2, v3, v4] st h Q = mr_wp 165 112 [.ref x, v1, v2, v3, v4] (.ref x :: st) h Q) ∧
    (∀ (v0 v1 v2 v3 v4 : Value) (a : Nat) (st : List Value) (h : mr_h) (Q : Option Value → mr_h → Prop), mr_wp 165 112 [v0, v1, v2, v3, v4] (.ref a :: st) h Q = mr_gf (h.1 a) 11 25 (fun v => mr_wp 165 115 [v0, v1, v2, v3, v4] (v :: st) h Q)) ∧
    (∀ (v0 v1 v2 v4 : Value) (x : Int32) (st : List Value) (h : mr_h) (Q : Option Value → mr_h → Prop), mr_wp 165 115 [v0, v1, v2, .int x, v4] st h Q = mr_wp 165 116 [v0, v1, v2, .int x, v4] (.int x :: st) h Q) ∧
    (∀ (v0 v1 v2 v3 v4 : Value) (a : Nat) (x : Int32) (st : List Value) (h : mr_h) (Q : Option Value → mr_h → Prop), mr_wp 165 116 [v0, v1, v2, v3, v4] (.int x :: .ref a :: st) h Q = mr_ai (h.1 a) x (fun v => mr_wp 165 117 [v0, v1, v2, v3, v4] (.int v :: st) h Q)) ∧
    (∀ (v0 v1 v2 v3 v4 : Value) (a : Nat) (x : Int32) (y : Int32) (st : List Value) (h : mr_h) (Q : Option Value → mr_h → Prop), mr_wp 165 117 [v0, v1, v2, v3, v4] (.int y :: .int x :: .ref a :: st) h Q = mr_si (h.1 a) x y (fun c => mr_wp 165 118 [v0, v1, v2, v3, v4] st (mr_up h a c) Q)) ∧
    (∀ (v0 v1 v2 : Value) (x : Int32) (w3 : Int32) (st : List Value) (h : mr_h) (Q : Option Value → mr_h → Prop), mr_wp 165 118 [v0, v1, v2, .int w3, .int x] st h Q = mr_wp 165 121 [v0, v1, v2, .int w3, .int (x + (1))] st h Q) ∧
    (∀ (v0 v1 v2 v3 v4 : Value) (st : List Value) (h : mr_h) (Q : Option Value → mr_h → Prop), mr_wp 165 121 [v0, v1, v2, v3, v4] st h Q = mr_wp 165 55 [v0, v1, v2, v3, v4] st h Q) ∧
    (∀ (v0 v1 v4 : Value) (x : Int32) (w2 : Int32) (st : List Value) (h : mr_h) (Q : Option Value → mr_h → Prop), mr_wp 165 124 [v0, v1, .int w2, .int x, v4] st h Q = mr_wp 165 127 [v0, v1, .int w2, .int (x + (1)), v4] st h Q) ∧
    (∀ (v0 v1 v2 v3 v4 : Value) (st : List Value) (h : mr_h) (Q : Option Value → mr_h → Prop), mr_wp 165 127 [v0, v1, v2, v3, v4] st h Q = mr_wp 165 44 [v0, v1, v2, v3, v4] st h Q) ∧
    (∀ (v0 v3 v4 : Value) (x : Int32) (w1 : Int32) (st : List Value) (h : mr_h) (Q : Option Value → mr_h → Prop), mr_wp 165 130 [v0, .int w1, .int x, v3, v4] st h Q = mr_wp 165 133 [v0, .int w1, .int (x + (1)), v3, v4] st h Q) ∧
    (∀ (v0 v1 v2 v3 v4 : Value) (st : List Value) (h : mr_h) (Q : Option Value → mr_h → Prop), mr_wp 165 133 [v0, v1, v2, v3, v4] st h Q = mr_wp 165 34 [v0, v1, v2, v3, v4] st h Q) ∧
    (∀ (v0 v1 v2 v3 v4 : Value) (h : mr_h) (Q : Option Value → mr_h → Prop), mr_wp 165 136 [v0, v1, v2, v3, v4] [] h Q = Q none h) :=
  ⟨fun v1 v2 v3 v4 x st h Q => gx_one (i := .aload_n 0) (len := 1) (by decide +kernel) rfl,
   fun v0 v1 v2 v3 v4 a st h Q => gx_get (x := 16) (by decide +kernel) (by decide +kernel),
   fun v0 v1 v2 v3 v4 st h Q => gx_one (i := .iconst 0) (len := 1) (by decide +kernel) rfl,
   fun v0 v1 v2 v4 x st h Q => gx_one (i := .iload_n 3) (len := 1) (by decide +kernel) rfl,
   fun v0 v1 v2 v3 v4 x y st h Q => gx_one (i := .iadd) (len := 1) (by decide +kernel) rfl,
   fun v0 v1 v2 v3 v4 a x st h Q => gx_iald (by decide +kernel),
   fun v0 v1 v2 v3 x st h Q => gx_one (i := .iload 4) (len := 2) (by decide +kernel) rfl,
   fun v0 v1 v2 v3 v4 a0 a1 r0 r1 h Q => gx_stat (x := 116) (t := 130) (n := 2) (by decide +kernel) (by decide +kernel) (by decide) (by decide +kernel) rfl (Or.inl (Nat.le_of_ble_eq_true rfl)) (by show _ ≤ mr_mxl 130; rw [show mr_mxl 130 = 2 from by decide +kernel]; exact Nat.le_of_ble_eq_true rfl),
   fun v0 v1 v2 v3 v4 x st h Q => gx_br (i := .ifCond .eq 20) (len := 3) (c := .eq) (by decide +kernel) rfl rfl,
   fun v1 v2 v3 v4 x st h Q => gx_one (i := .aload_n 0) (len := 1) (by decide +kernel) rfl,
   fun v0 v1 v2 v3 v4 a st h Q => gx_get (x := 50) (by decide +kernel) (by decide +kernel),
   fun v0 v1 v2 v3 x st h Q => gx_one (i := .iload 4) (len := 2) (by decide +kernel) rfl,
   fun v0 v1 v2 v3 v4 a x st h Q => gx_iald (by decide +kernel),
   fun v0 v1 v3 v4 x st h Q => gx_one (i := .iload_n 2) (len := 1) (by decide +kernel) rfl,
   fun v0 v1 v2 v3 v4 st h Q => gx_one (i := .iconst 1) (len := 1) (by decide +kernel) rfl,
   fun v0 v1 v2 v3 v4 x y st h Q => gx_one (i := .isub) (len := 1) (by decide +kernel) rfl,
   fun v0 v1 v2 v3 v4 x y st h Q => gx_br (i := .if_icmp .ne 7) (len := 3) (c := .ne) (by decide +kernel) rfl rfl,
   fun v0 v1 v3 v4 x st h Q => gx_one (i := .iload_n 2) (len := 1) (by decide +kernel) rfl,
   fun v0 v1 v2 v3 v4 st h Q => gx_one (i := .goto 9) (len := 3) (by decide +kernel) rfl,
   fun v1 v2 v3 v4 x st h Q => gx_one (i := .aload_n 0) (len := 1) (by decide +kernel) rfl,
   fun v0 v1 v2 v3 v4 a st h Q => gx_get (x := 50) (by decide +kernel) (by decide +kernel),
   fun v0 v1 v2 v4 x st h Q => gx_one (i := .iload_n 3) (len := 1) (by decide +kernel) rfl,
   fun v0 v1 v2 v3 v4 a x st h Q => gx_iald (by decide +kernel),
   fun v0 v1 v2 v3 v4 a x y st h Q => gx_iast (by decide +kernel),
   fun v0 v1 v2 x w3 st h Q => gx_one (i := .iinc 4 1) (len := 3) (by decide +kernel) rfl,
   fun v0 v1 v2 v3 v4 st h Q => gx_one (i := .goto (-66)) (len := 3) (by decide +kernel) rfl,
   fun v0 v1 v4 x w2 st h Q => gx_one (i := .iinc 3 1) (len := 3) (by decide +kernel) rfl,
   fun v0 v1 v2 v3 v4 st h Q => gx_one (i := .goto (-83)) (len := 3) (by decide +kernel) rfl,
   fun v0 v3 v4 x w1 st h Q => gx_one (i := .iinc 2 1) (len := 3) (by decide +kernel) rfl,
   fun v0 v1 v2 v3 v4 st h Q => gx_one (i := .goto (-99)) (len := 3) (by decide +kernel) rfl,
   fun v0 v1 v2 v3 v4 h Q => gx_ret (i := .return_) (len := 1) (by decide +kernel) rfl rfl (by simp only [mr_rt, if_pos]; rw [if_pos (by decide +kernel)])⟩

theorem s_mo_on_88 (v0 v1 v2 v3 v4 : Value) (x : Int32) (st : List Value) (h : mr_h) (Q : Option Value → mr_h → Prop) : mr_wp 166 88 [v0, v1, v2, v3, v4, .int x] st h Q = mr_wp 166 90 [v0, v1, v2, v3, v4, .int x] (.int x :: st) h Q := gx_one (i := .iload 5) (len := 2) (by decide +kernel) rfl
theorem S_mo_on_0 : (∀ (v1 v2 v3 v4 v5 : Value) (x : Nat) (st : List Value) (h : mr_h) (Q : Option Value → mr_h → Prop), mr_wp 166 0 [.ref x, v1, v2, v3, v4, v5] st h Q = mr_wp 166 1 [.ref x, v1, v2, v3, v4, v5] (.ref x :: st) h Q) ∧
    (∀ (v0 v1 v2 v3 v4 v5 : Value) (st : List Value) (h : mr_h) (Q : Option Value → mr_h → Prop), mr_wp 166 1 [v0, v1, v2, v3, v4, v5] st h Q = mr_wp 166 2 [v0, v1, v2, v3, v4, v5] (.int (0) :: st) h Q) ∧
    (∀ (v0 v1 v2 v3 v4 v5 : Value) (a : Nat) (x : Int32) (st : List Value) (h : mr_h) (Q : Option Value → mr_h → Prop), mr_wp 166 2 [v0, v1, v2, v3, v4, v5] (.int x :: .ref a :: st) h Q = mr_pf (h.1 a) 11 0 (.int x) (fun c => mr_wp 166 5 [v0, v1, v2, v3, v4, v5] st (mr_up h a c) Q)) ∧
    (∀ (v1 v2 v3 v4 v5 : Value) (x : Nat) (st : List Value) (h : mr_h) (Q : Option Value → mr_h → Prop), mr_wp 166 5 [.ref x, v1, v2, v3, v4, v5] st h Q = mr_wp 166 6 [.ref x, v1, v2, v3, v4, v5] (.ref x :: st) h Q) ∧
    (∀ (v0 v2 v3 v4 v5 : Value) (x : Int32) (st : List Value) (h : mr_h) (Q : Option Value → mr_h → Prop), mr_wp 166 6 [v0, .int x, v2, v3, v4, v5] st h Q = mr_wp 166 7 [v0, .int x, v2, v3, v4, v5] (.int x :: st) h Q) ∧
    (∀ (v0 v1 v2 v3 v4 v5 : Value) (a0 : Int32) (o : Nat) (h : mr_h) (Q : Option Value → mr_h → Prop), mr_wp 166 7 [v0, v1, v2, v3, v4, v5] [.int a0, .ref o] h Q = mr_rc (h.1 o) 11 (mr_run 132 [.ref o, .int a0] h (fun v h' => mr_wp 166 10 [v0, v1, v2, v3, v4, v5] (v.toList ++ []) h' Q))) ∧
    (∀ (v0 v1 v2 v3 v4 v5 : Value) (x : Int32) (st : List Value) (h : mr_h) (Q : Option Value → mr_h → Prop), mr_wp 166 10 [v0, v1, v2, v3, v4, v5] (.int x :: st) h Q = if x = 0 then mr_wp 166 30 [v0, v1, v2, v3, v4, v5] st h Q else mr_wp 166 13 [v0, v1, v2, v3, v4, v5] st h Q) ∧
    (∀ (v1 v2 v3 v4 v5 : Value) (x : Nat) (st : List Value) (h : mr_h) (Q : Option Value → mr_h → Prop), mr_wp 166 13 [.ref x, v1, v2, v3, v4, v5] st h Q = mr_wp 166 14 [.ref x, v1, v2, v3, v4, v5] (.ref x :: st) h Q) ∧
    (∀ (v0 v1 v3 v4 v5 : Value) (x : Int32) (st : List Value) (h : mr_h) (Q : Option Value → mr_h → Prop), mr_wp 166 14 [v0, v1, .int x, v3, v4, v5] st h Q = mr_wp 166 15 [v0, v1, .int x, v3, v4, v5] (.int x :: st) h Q) ∧
    (∀ (v0 v1 v2 v3 v4 v5 : Value) (a0 : Int32) (o : Nat) (h : mr_h) (Q : Option Value → mr_h → Prop), mr_wp 166 15 [v0, v1, v2, v3, v4, v5] [.int a0, .ref o] h Q = mr_rc (h.1 o) 11 (mr_run 132 [.ref o, .int a0] h (fun v h' => mr_wp 166 18 [v0, v1, v2, v3, v4, v5] (v.toList ++ []) h' Q))) ∧
    (∀ (v0 v1 v2 v3 v4 v5 : Value) (x : Int32) (st : List Value) (h : mr_h) (Q : Option Value → mr_h → Prop), mr_wp 166 18 [v0, v1, v2, v3, v4, v5] (.int x :: st) h Q = if x = 0 then mr_wp 166 30 [v0, v1, v2, v3, v4, v5] st h Q else mr_wp 166 21 [v0, v1, v2, v3, v4, v5] st h Q) ∧
    (∀ (v0 v1 v2 v4 v5 : Value) (x : Int32) (st : List Value) (h : mr_h) (Q : Option Value → mr_h → Prop), mr_wp 166 21 [v0, v1, v2, .int x, v4, v5] st h Q = mr_wp 166 22 [v0, v1, v2, .int x, v4, v5] (.int x :: st) h Q) ∧
    (∀ (v0 v1 v2 v3 v4 v5 : Value) (st : List Value) (h : mr_h) (Q : Option Value → mr_h → Prop), mr_wp 166 22 [v0, v1, v2, v3, v4, v5] st h Q = mr_wp 166 23 [v0, v1, v2, v3, v4, v5] (.int (0) :: st) h Q) ∧
    (∀ (v0 v1 v2 v3 v4 v5 : Value) (st : List Value) (h : mr_h) (Q : Option Value → mr_h → Prop), mr_wp 166 23 [v0, v1, v2, v3, v4, v5] st h Q = mr_wp 166 24 [v0, v1, v2, v3, v4, v5] (.int (1) :: st) h Q) ∧
    (∀ (v0 v1 v2 v3 v4 v5 : Value) (a0 : Int32) (a1 : Int32) (a2 : Int32) (h : mr_h) (Q : Option Value → mr_h → Prop), mr_wp 166 24 [v0, v1, v2, v3, v4, v5] [.int a2, .int a1, .int a0] h Q = mr_run 121 [.int a0, .int a1, .int a2] h (fun v h' => mr_wp 166 27 [v0, v1, v2, v3, v4, v5] (v.toList ++ []) h' Q)) ∧
    (∀ (v0 v1 v2 v3 v4 v5 : Value) (x : Int32) (st : List Value) (h : mr_h) (Q : Option Value → mr_h → Prop), mr_wp 166 27 [v0, v1, v2, v3, v4, v5] (.int x :: st) h Q = if ¬ x = 0 then mr_wp 166 32 [v0, v1, v2, v3, v4, v5] st h Q else mr_wp 166 30 [v0, v1, v2, v3, v4, v5] st h Q) ∧
    (∀ (v0 v1 v2 v3 v4 v5 : Value) (st : List Value) (h : mr_h) (Q : Option Value → mr_h → Prop), mr_wp 166 30 [v0, v1, v2, v3, v4, v5] st h Q = mr_wp 166 31 [v0, v1, v2, v3, v4, v5] (.int (-1) :: st) h Q) ∧
    (∀ (v0 v1 v2 v3 v4 v5 : Value) (x : Int32) (h : mr_h) (Q : Option Value → mr_h → Prop), mr_wp 166 31 [v0, v1, v2, v3, v4, v5] [.int x] h Q = Q (some (.int x)) h) ∧
    (∀ (v1 v2 v3 v4 v5 : Value) (x : Nat) (st : List Value) (h : mr_h) (Q : Option Value → mr_h → Prop), mr_wp 166 32 [.ref x, v1, v2, v3, v4, v5] st h Q = mr_wp 166 33 [.ref x, v1, v2, v3, v4, v5] (.ref x :: st) h Q) ∧
    (∀ (v1 v2 v3 v4 v5 : Value) (x : Nat) (st : List Value) (h : mr_h) (Q : Option Value → mr_h → Prop), mr_wp 166 33 [.ref x, v1, v2, v3, v4, v5] st h Q = mr_wp 166 34 [.ref x, v1, v2, v3, v4, v5] (.ref x :: st) h Q) ∧
    (∀ (v0 v1 v2 v3 v4 v5 : Value) (a : Nat) (st : List Value) (h : mr_h) (Q : Option Value → mr_h → Prop), mr_wp 166 34 [v0, v1, v2, v3, v4, v5] (.ref a :: st) h Q = mr_gf (h.1 a) 11 12 (fun v => mr_wp 166 37 [v0, v1, v2, v3, v4, v5] (v :: st) h Q)) ∧
    (∀ (v1 v2 v3 v4 v5 : Value) (x : Nat) (st : List Value) (h : mr_h) (Q : Option Value → mr_h → Prop), mr_wp 166 37 [.ref x, v1, v2, v3, v4, v5] st h Q = mr_wp 166 38 [.ref x, v1, v2, v3, v4, v5] (.ref x :: st) h Q) ∧
    (∀ (v0 v1 v2 v3 v4 v5 : Value) (a : Nat) (st : List Value) (h : mr_h) (Q : Option Value → mr_h → Prop), mr_wp 166 38 [v0, v1, v2, v3, v4, v5] (.ref a :: st) h Q = mr_gf (h.1 a) 11 22 (fun v => mr_wp 166 41 [v0, v1, v2, v3, v4, v5] (v :: st) h Q)) ∧
    (∀ (v0 v1 v2 v3 v4 v5 : Value) (a0 : Nat) (a1 : Nat) (o : Nat) (h : mr_h) (Q : Option Value → mr_h → Prop), mr_wp 166 41 [v0, v1, v2, v3, v4, v5] [.ref a1, .ref a0, .ref o] h Q = mr_rc (h.1 o) 11 (mr_run 133 [.ref o, .ref a0, .ref a1] h (fun v h' => mr_wp 166 44 [v0, v1, v2, v3, v4, v5] (v.toList ++ []) h' Q))) ∧
    (∀ (v1 v2 v3 v4 v5 : Value) (x : Nat) (st : List Value) (h : mr_h) (Q : Option Value → mr_h → Prop), mr_wp 166 44 [.ref x, v1, v2, v3, v4, v5] st h Q = mr_wp 166 45 [.ref x, v1, v2, v3, v4, v5] (.ref x :: st) h Q) ∧
    (∀ (v0 v1 v2 v3 v4 v5 : Value) (a : Nat) (st : List Value) (h : mr_h) (Q : Option Value → mr_h → Prop), mr_wp 166 45 [v0, v1, v2, v3, v4, v5] (.ref a :: st) h Q = mr_gf (h.1 a) 11 22 (fun v => mr_wp 166 48 [v0, v1, v2, v3, v4, v5] (v :: st) h Q)) ∧
    (∀ (v0 v2 v3 v4 v5 : Value) (x : Int32) (st : List Value) (h : mr_h) (Q : Option Value → mr_h → Prop), mr_wp 166 48 [v0, .int x, v2, v3, v4, v5] st h Q = mr_wp 166 49 [v0, .int x, v2, v3, v4, v5] (.int x :: st) h Q) ∧
    (∀ (v0 v1 v2 v3 v4 v5 : Value) (a : Nat) (x : Int32) (st : List Value) (h : mr_h) (Q : Option Value → mr_h → Prop), mr_wp 166 49 [v0, v1, v2, v3, v4, v5] (.int x :: .ref a :: st) h Q = mr_ai (h.1 a) x (fun v => mr_wp 166 50 [v0, v1, v2, v3, v4, v5] (.int v :: st) h Q)) ∧
    (∀ (v0 v1 v3 v4 v5 : Value) (x : Int32) (st : List Value) (h : mr_h) (Q : Option Value → mr_h → Prop), mr_wp 166 50 [v0, v1, .int x, v3, v4, v5] st h Q = mr_wp 166 51 [v0, v1, .int x, v3, v4, v5] (.int x :: st) h Q) ∧
    (∀ (v0 v1 v2 v3 v4 v5 : Value) (a0 : Int32) (a1 : Int32) (h : mr_h) (Q : Option Value → mr_h → Prop), mr_wp 166 51 [v0, v1, v2, v3, v4, v5] [.int a1, .int a0] h Q = mr_run 130 [.int a0, .int a1] h (fun v h' => mr_wp 166 54 [v0, v1, v2, v3, v4, v5] (v.toList ++ []) h' Q)) ∧
    (∀ (v0 v1 v2 v3 v4 v5 : Value) (x : Int32) (st : List Value) (h : mr_h) (Q : Option Value → mr_h → Prop), mr_wp 166 54 [v0, v1, v2, v3, v4, v5] (.int x :: st) h Q = if ¬ x = 0 then mr_wp 166 59 [v0, v1, v2, v3, v4, v5] st h Q else mr_wp 166 57 [v0, v1, v2, v3, v4, v5] st h Q) ∧
    (∀ (v0 v1 v2 v3 v4 v5 : Value) (st : List Value) (h : mr_h) (Q : Option Value → mr_h → Prop), mr_wp 166 57 [v0, v1, v2, v3, v4, v5] st h Q = mr_wp 166 58 [v0, v1, v2, v3, v4, v5] (.int (0) :: st) h Q) ∧
    (∀ (v0 v1 v2 v3 v4 v5 : Value) (x : Int32) (h : mr_h) (Q : Option Value → mr_h → Prop), mr_wp 166 58 [v0, v1, v2, v3, v4, v5] [.int x] h Q = Q (some (.int x)) h) ∧
    (∀ (v0 v1 v2 v4 v5 : Value) (x : Int32) (st : List Value) (h : mr_h) (Q : Option Value → mr_h → Prop), mr_wp 166 59 [v0, v1, v2, .int x, v4, v5] st h Q = mr_wp 166 60 [v0, v1, v2, .int x, v4, v5] (.int x :: st) h Q) ∧
    (∀ (v0 v1 v2 v3 v4 v5 : Value) (x : Int32) (st : List Value) (h : mr_h) (Q : Option Value → mr_h → Prop), mr_wp 166 60 [v0, v1, v2, v3, v4, v5] (.int x :: st) h Q = if ¬ x = 0 then mr_wp 166 76 [v0, v1, v2, v3, v4, v5] st h Q else mr_wp 166 63 [v0, v1, v2, v3, v4, v5] st h Q) ∧
    (∀ (v1 v2 v3 v4 v5 : Value) (x : Nat) (st : List Value) (h : mr_h) (Q : Option Value → mr_h → Prop), mr_wp 166 63 [.ref x, v1, v2, v3, v4, v5] st h Q = mr_wp 166 64 [.ref x, v1, v2, v3, v4, v5] (.ref x :: st) h Q) ∧
    (∀ (v0 v1 v2 v3 v4 v5 : Value) (a : Nat) (st : List Value) (h : mr_h) (Q : Option Value → mr_h → Prop), mr_wp 166 64 [v0, v1, v2, v3, v4, v5] (.ref a :: st) h Q = mr_gf (h.1 a) 11 22 (fun v => mr_wp 166 67 [v0, v1, v2, v3, v4, v5] (v :: st) h Q)) ∧
    (∀ (v0 v2 v3 v4 v5 : Value) (x : Int32) (st : List Value) (h : mr_h) (Q : Option Value → mr_h → Prop), mr_wp 166 67 [v0, .int x, v2, v3, v4, v5] st h Q = mr_wp 166 68 [v0, .int x, v2, v3, v4, v5] (.int x :: st) h Q) ∧
    (∀ (v0 v1 v2 v3 v4 v5 : Value) (a : Nat) (x : Int32) (st : List Value) (h : mr_h) (Q : Option Value → mr_h → Prop), mr_wp 166 68 [v0, v1, v2, v3, v4, v5] (.int x :: .ref a :: st) h Q = mr_ai (h.1 a) x (fun v => mr_wp 166 69 [v0, v1, v2, v3, v4, v5] (.int v :: st) h Q)) ∧
    (∀ (v1 v2 v3 v4 v5 : Value) (x : Nat) (st : List Value) (h : mr_h) (Q : Option Value → mr_h → Prop), mr_wp 166 69 [.ref x, v1, v2, v3, v4, v5] st h Q = mr_wp 166 70 [.ref x, v1, v2, v3, v4, v5] (.ref x :: st) h Q) :=
  ⟨fun v1 v2 v3 v4 v5 x st h Q => gx_one (i := .aload_n 0) (len := 1) (by decide +kernel) rfl,
   fun v0 v1 v2 v3 v4 v5 st h Q => gx_one (i := .iconst 0) (len := 1) (by decide +kernel) rfl,
   fun v0 v1 v2 v3 v4 v5 a x st h Q => gx_put (x := 65) (by decide +kernel) (by decide +kernel) ⟨rfl, Or.inl rfl⟩,
   fun v1 v2 v3 v4 v5 x st h Q => gx_one (i := .aload_n 0) (len := 1) (by decide +kernel) rfl,
   fun v0 v2 v3 v4 v5 x st h Q => gx_one (i := .iload_n 1) (len := 1) (by decide +kernel) rfl,
   fun v0 v1 v2 v3 v4 v5 a0 o h Q => gx_virt (x := 132) (n := 1) (by decide +kernel) (by decide +kernel) rfl (Or.inl (Nat.le_of_ble_eq_true rfl)) (by show _ ≤ mr_mxl 132; rw [show mr_mxl 132 = 2 from by decide +kernel]; exact Nat.le_of_ble_eq_true rfl) (by decide +kernel),
   fun v0 v1 v2 v3 v4 v5 x st h Q => gx_br (i := .ifCond .eq 20) (len := 3) (c := .eq) (by decide +kernel) rfl rfl,
   fun v1 v2 v3 v4 v5 x st h Q => gx_one (i := .aload_n 0) (len := 1) (by decide +kernel) rfl,
   fun v0 v1 v3 v4 v5 x st h Q => gx_one (i := .iload_n 2) (len := 1) (by decide +kernel) rfl,
   fun v0 v1 v2 v3 v4 v5 a0 o h Q => gx_virt (x := 132) (n := 1) (by decide +kernel) (by decide +kernel) rfl (Or.inl (Nat.le_of_ble_eq_true rfl)) (by show _ ≤ mr_mxl 132; rw [show mr_mxl 132 = 2 from by decide +kernel]; exact Nat.le_of_ble_eq_true rfl) (by decide +kernel),
   fun v0 v1 v2 v3 v4 v5 x st h Q => gx_br (i := .ifCond .eq 12) (len := 3) (c := .eq) (by decide +kernel) rfl rfl,
   fun v0 v1 v2 v4 v5 x st h Q => gx_one (i := .iload_n 3) (len := 1) (by decide +kernel) rfl,
   fun v0 v1 v2 v3 v4 v5 st h Q => gx_one (i := .iconst 0) (len := 1) (by decide +kernel) rfl,
   fun v0 v1 v2 v3 v4 v5 st h Q => gx_one (i := .iconst 1) (len := 1) (by decide +kernel) rfl,
   fun v0 v1 v2 v3 v4 v5 a0 a1 a2 h Q => gx_stat (x := 69) (t := 121) (n := 3) (by decide +kernel) (by decide +kernel) (by decide) (by decide +kernel) rfl (Or.inl (Nat.le_of_ble_eq_true rfl)) (by show _ ≤ mr_mxl 121; rw [show mr_mxl 121 = 3 from by decide +kernel]; exact Nat.le_of_ble_eq_true rfl),
   fun v0 v1 v2 v3 v4 v5 x st h Q => gx_br (i := .ifCond .ne 5) (len := 3) (c := .ne) (by decide +kernel) rfl rfl,
   fun v0 v1 v2 v3 v4 v5 st h Q => gx_one (i := .iconst (-1)) (len := 1) (by decide +kernel) rfl,
   fun v0 v1 v2 v3 v4 v5 x h Q => gx_ret (i := .ireturn) (len := 1) (by decide +kernel) rfl rfl (by simp only [mr_rt, if_pos]; rw [if_pos (Or.inl (by decide +kernel))]),
   fun v1 v2 v3 v4 v5 x st h Q => gx_one (i := .aload_n 0) (len := 1) (by decide +kernel) rfl,
   fun v1 v2 v3 v4 v5 x st h Q => gx_one (i := .aload_n 0) (len := 1) (by decide +kernel) rfl,
   fun v0 v1 v2 v3 v4 v5 a st h Q => gx_get (x := 16) (by decide +kernel) (by decide +kernel),
   fun v1 v2 v3 v4 v5 x st h Q => gx_one (i := .aload_n 0) (len := 1) (by decide +kernel) rfl,
   fun v0 v1 v2 v3 v4 v5 a st h Q => gx_get (x := 41) (by decide +kernel) (by decide +kernel),
   fun v0 v1 v2 v3 v4 v5 a0 a1 o h Q => gx_virt (x := 158) (n := 2) (by decide +kernel) (by decide +kernel) rfl (Or.inl (Nat.le_of_ble_eq_true rfl)) (by show _ ≤ mr_mxl 133; rw [show mr_mxl 133 = 5 from by decide +kernel]; exact Nat.le_of_ble_eq_true rfl) (by decide +kernel),
   fun v1 v2 v3 v4 v5 x st h Q => gx_one (i := .aload_n 0) (len := 1) (by decide +kernel) rfl,
   fun v0 v1 v2 v3 v4 v5 a st h Q => gx_get (x := 41) (by decide +kernel) (by decide +kernel),
   fun v0 v2 v3 v4 v5 x st h Q => gx_one (i := .iload_n 1) (len := 1) (by decide +kernel) rfl,
   fun v0 v1 v2 v3 v4 v5 a x st h Q => gx_iald (by decide +kernel),
   fun v0 v1 v3 v4 v5 x st h Q => gx_one (i := .iload_n 2) (len := 1) (by decide +kernel) rfl,
   fun v0 v1 v2 v3 v4 v5 a0 a1 h Q => gx_stat (x := 116) (t := 130) (n := 2) (by decide +kernel) (by decide +kernel) (by decide) (by decide +kernel) rfl (Or.inl (Nat.le_of_ble_eq_true rfl)) (by show _ ≤ mr_mxl 130; rw [show mr_mxl 130 = 2 from by decide +kernel]; exact Nat.le_of_ble_eq_true rfl),
   fun v0 v1 v2 v3 v4 v5 x st h Q => gx_br (i := .ifCond .ne 5) (len := 3) (c := .ne) (by decide +kernel) rfl rfl,
   fun v0 v1 v2 v3 v4 v5 st h Q => gx_one (i := .iconst 0) (len := 1) (by decide +kernel) rfl,
   fun v0 v1 v2 v3 v4 v5 x h Q => gx_ret (i := .ireturn) (len := 1) (by decide +kernel) rfl rfl (by simp only [mr_rt, if_pos]; rw [if_pos (Or.inl (by decide +kernel))]),
   fun v0 v1 v2 v4 v5 x st h Q => gx_one (i := .iload_n 3) (len := 1) (by decide +kernel) rfl,
   fun v0 v1 v2 v3 v4 v5 x st h Q => gx_br (i := .ifCond .ne 16) (len := 3) (c := .ne) (by decide +kernel) rfl rfl,
   fun v1 v2 v3 v4 v5 x st h Q => gx_one (i := .aload_n 0) (len := 1) (by decide +kernel) rfl,
   fun v0 v1 v2 v3 v4 v5 a st h Q => gx_get (x := 41) (by decide +kernel) (by decide +kernel),
   fun v0 v2 v3 v4 v5 x st h Q => gx_one (i := .iload_n 1) (len := 1) (by decide +kernel) rfl,
   fun v0 v1 v2 v3 v4 v5 a x st h Q => gx_iald (by decide +kernel),
   fun v1 v2 v3 v4 v5 x st h Q => gx_one (i := .aload_n 0) (len := 1) (by decide +kernel) rfl⟩
theorem S_mo_on_1 : (∀ (v0 v1 v3 v4 v5 : Value) (x : Int32) (st : List Value) (h : mr_h) (Q : Option Value → mr_h → Prop), mr_wp 166 70 [v0, v1, .int x, v3, v4, v5] st h Q = mr_wp 166 71 [v0, v1, .int x, v3, v4, v5] (.int x :: st) h Q) ∧
    (∀ (v0 v1 v2 v3 v4 v5 : Value) (a0 : Int32) (o : Nat) (r0 : Value) (h : mr_h) (Q : Option Value → mr_h → Prop), mr_wp 166 71 [v0, v1, v2, v3, v4, v5] [.int a0, .ref o, r0] h Q = mr_rc (h.1 o) 11 (mr_run 136 [.ref o, .int a0] h (fun v h' => mr_wp 166 74 [v0, v1, v2, v3, v4, v5] (v.toList ++ [r0]) h' Q))) ∧
    (∀ (v0 v1 v2 v3 v4 v5 : Value) (x : Int32) (y : Int32) (st : List Value) (h : mr_h) (Q : Option Value → mr_h → Prop), mr_wp 166 74 [v0, v1, v2, v3, v4, v5] (.int y :: .int x :: st) h Q = mr_wp 166 75 [v0, v1, v2, v3, v4, v5] (.int (x &&& y) :: st) h Q) ∧
    (∀ (v0 v1 v2 v3 v4 v5 : Value) (x : Int32) (h : mr_h) (Q : Option Value → mr_h → Prop), mr_wp 166 75 [v0, v1, v2, v3, v4, v5] [.int x] h Q = Q (some (.int x)) h) ∧
    (∀ (v0 v1 v2 v3 v4 v5 : Value) (st : List Value) (h : mr_h) (Q : Option Value → mr_h → Prop), mr_wp 166 76 [v0, v1, v2, v3, v4, v5] st h Q = mr_wp 166 77 [v0, v1, v2, v3, v4, v5] (.int (1) :: st) h Q) ∧
    (∀ (v0 v2 v3 v4 v5 : Value) (x : Int32) (st : List Value) (h : mr_h) (Q : Option Value → mr_h → Prop), mr_wp 166 77 [v0, .int x, v2, v3, v4, v5] st h Q = mr_wp 166 78 [v0, .int x, v2, v3, v4, v5] (.int x :: st) h Q) ∧
    (∀ (v0 v1 v2 v3 v4 v5 : Value) (x : Int32) (y : Int32) (st : List Value) (h : mr_h) (Q : Option Value → mr_h → Prop), mr_wp 166 78 [v0, v1, v2, v3, v4, v5] (.int y :: .int x :: st) h Q = mr_wp 166 79 [v0, v1, v2, v3, v4, v5] (.int (x <<< (y &&& 31)) :: st) h Q) ∧
    (∀ (v0 v1 v2 v3 v4 v5 : Value) (st : List Value) (h : mr_h) (Q : Option Value → mr_h → Prop), mr_wp 166 79 [v0, v1, v2, v3, v4, v5] st h Q = mr_wp 166 80 [v0, v1, v2, v3, v4, v5] (.int (1) :: st) h Q) ∧
    (∀ (v0 v1 v3 v4 v5 : Value) (x : Int32) (st : List Value) (h : mr_h) (Q : Option Value → mr_h → Prop), mr_wp 166 80 [v0, v1, .int x, v3, v4, v5] st h Q = mr_wp 166 81 [v0, v1, .int x, v3, v4, v5] (.int x :: st) h Q) ∧
    (∀ (v0 v1 v2 v3 v4 v5 : Value) (x : Int32) (y : Int32) (st : List Value) (h : mr_h) (Q : Option Value → mr_h → Prop), mr_wp 166 81 [v0, v1, v2, v3, v4, v5] (.int y :: .int x :: st) h Q = mr_wp 166 82 [v0, v1, v2, v3, v4, v5] (.int (x <<< (y &&& 31)) :: st) h Q) ∧
    (∀ (v0 v1 v2 v3 v4 v5 : Value) (x : Int32) (y : Int32) (st : List Value) (h : mr_h) (Q : Option Value → mr_h → Prop), mr_wp 166 82 [v0, v1, v2, v3, v4, v5] (.int y :: .int x :: st) h Q = mr_wp 166 83 [v0, v1, v2, v3, v4, v5] (.int (x ||| y) :: st) h Q) ∧
    (∀ (v0 v1 v2 v4 v5 : Value) (w3 : Int32) (x : Int32) (st : List Value) (h : mr_h) (Q : Option Value → mr_h → Prop), mr_wp 166 83 [v0, v1, v2, .int w3, v4, v5] (.int x :: st) h Q = mr_wp 166 85 [v0, v1, v2, .int w3, .int x, v5] st h Q) ∧
    (∀ (v0 v1 v2 v3 v4 v5 : Value) (st : List Value) (h : mr_h) (Q : Option Value → mr_h → Prop), mr_wp 166 85 [v0, v1, v2, v3, v4, v5] st h Q = mr_wp 166 86 [v0, v1, v2, v3, v4, v5] (.int (0) :: st) h Q) ∧
    (∀ (v0 v1 v2 v3 v5 : Value) (w4 : Int32) (x : Int32) (st : List Value) (h : mr_h) (Q : Option Value → mr_h → Prop), mr_wp 166 86 [v0, v1, v2, v3, .int w4, v5] (.int x :: st) h Q = mr_wp 166 88 [v0, v1, v2, v3, .int w4, .int x] st h Q) ∧
    (∀ (v1 v2 v3 v4 v5 : Value) (x : Nat) (st : List Value) (h : mr_h) (Q : Option Value → mr_h → Prop), mr_wp 166 90 [.ref x, v1, v2, v3, v4, v5] st h Q = mr_wp 166 91 [.ref x, v1, v2, v3, v4, v5] (.ref x :: st) h Q) ∧
    (∀ (v0 v1 v2 v3 v4 v5 : Value) (a : Nat) (st : List Value) (h : mr_h) (Q : Option Value → mr_h → Prop), mr_wp 166 91 [v0, v1, v2, v3, v4, v5] (.ref a :: st) h Q = mr_gf (h.1 a) 11 8 (fun v => mr_wp 166 94 [v0, v1, v2, v3, v4, v5] (v :: st) h Q)) ∧
    (∀ (v0 v1 v2 v3 v4 v5 : Value) (x : Int32) (y : Int32) (st : List Value) (h : mr_h) (Q : Option Value → mr_h → Prop), mr_wp 166 94 [v0, v1, v2, v3, v4, v5] (.int y :: .int x :: st) h Q = if y ≤ x then mr_wp 166 172 [v0, v1, v2, v3, v4, v5] st h Q else mr_wp 166 97 [v0, v1, v2, v3, v4, v5] st h Q) ∧
    (∀ (v0 v2 v3 v4 v5 : Value) (x : Int32) (st : List Value) (h : mr_h) (Q : Option Value → mr_h → Prop), mr_wp 166 97 [v0, .int x, v2, v3, v4, v5] st h Q = mr_wp 166 98 [v0, .int x, v2, v3, v4, v5] (.int x :: st) h Q) ∧
    (∀ (v0 v1 v3 v4 v5 : Value) (x : Int32) (st : List Value) (h : mr_h) (Q : Option Value → mr_h → Prop), mr_wp 166 98 [v0, v1, .int x, v3, v4, v5] st h Q = mr_wp 166 99 [v0, v1, .int x, v3, v4, v5] (.int x :: st) h Q) ∧
    (∀ (v0 v1 v2 v3 v4 v5 : Value) (x : Int32) (y : Int32) (st : List Value) (h : mr_h) (Q : Option Value → mr_h → Prop), mr_wp 166 99 [v0, v1, v2, v3, v4, v5] (.int y :: .int x :: st) h Q = if x = y then mr_wp 166 172 [v0, v1, v2, v3, v4, v5] st h Q else mr_wp 166 102 [v0, v1, v2, v3, v4, v5] st h Q) ∧
    (∀ (v0 v1 v2 v3 v4 : Value) (x : Int32) (st : List Value) (h : mr_h) (Q : Option Value → mr_h → Prop), mr_wp 166 102 [v0, v1, v2, v3, v4, .int x] st h Q = mr_wp 166 104 [v0, v1, v2, v3, v4, .int x] (.int x :: st) h Q) ∧
    (∀ (v0 v2 v3 v4 v5 : Value) (x : Int32) (st : List Value) (h : mr_h) (Q : Option Value → mr_h → Prop), mr_wp 166 104 [v0, .int x, v2, v3, v4, v5] st h Q = mr_wp 166 105 [v0, .int x, v2, v3, v4, v5] (.int x :: st) h Q) ∧
    (∀ (v0 v1 v2 v3 v4 v5 : Value) (x : Int32) (y : Int32) (st : List Value) (h : mr_h) (Q : Option Value → mr_h → Prop), mr_wp 166 105 [v0, v1, v2, v3, v4, v5] (.int y :: .int x :: st) h Q = if x = y then mr_wp 166 166 [v0, v1, v2, v3, v4, v5] st h Q else mr_wp 166 108 [v0, v1, v2, v3, v4, v5] st h Q) ∧
    (∀ (v0 v1 v2 v3 v4 : Value) (x : Int32) (st : List Value) (h : mr_h) (Q : Option Value → mr_h → Prop), mr_wp 166 108 [v0, v1, v2, v3, v4, .int x] st h Q = mr_wp 166 110 [v0, v1, v2, v3, v4, .int x] (.int x :: st) h Q) ∧
    (∀ (v0 v1 v3 v4 v5 : Value) (x : Int32) (st : List Value) (h : mr_h) (Q : Option Value → mr_h → Prop), mr_wp 166 110 [v0, v1, .int x, v3, v4, v5] st h Q = mr_wp 166 111 [v0, v1, .int x, v3, v4, v5] (.int x :: st) h Q) ∧
    (∀ (v0 v1 v2 v3 v4 v5 : Value) (x : Int32) (y : Int32) (st : List Value) (h : mr_h) (Q : Option Value → mr_h → Prop), mr_wp 166 111 [v0, v1, v2, v3, v4, v5] (.int y :: .int x :: st) h Q = if x = y then mr_wp 166 166 [v0, v1, v2, v3, v4, v5] st h Q else mr_wp 166 114 [v0, v1, v2, v3, v4, v5] st h Q) ∧
    (∀ (v1 v2 v3 v4 v5 : Value) (x : Nat) (st : List Value) (h : mr_h) (Q : Option Value → mr_h → Prop), mr_wp 166 114 [.ref x, v1, v2, v3, v4, v5] st h Q = mr_wp 166 115 [.ref x, v1, v2, v3, v4, v5] (.ref x :: st) h Q) ∧
    (∀ (v0 v1 v2 v3 v4 v5 : Value) (o : Nat) (h : mr_h) (Q : Option Value → mr_h → Prop), mr_wp 166 115 [v0, v1, v2, v3, v4, v5] [.ref o] h Q = mr_rc (h.1 o) 11 (mr_run 153 [.ref o] h (fun v h' => mr_wp 166 118 [v0, v1, v2, v3, v4, v5] (v.toList ++ []) h' Q))) ∧
    (∀ (v1 v2 v3 v4 v5 : Value) (x : Nat) (st : List Value) (h : mr_h) (Q : Option Value → mr_h → Prop), mr_wp 166 118 [.ref x, v1, v2, v3, v4, v5] st h Q = mr_wp 166 119 [.ref x, v1, v2, v3, v4, v5] (.ref x :: st) h Q) ∧
    (∀ (v0 v1 v2 v3 v4 v5 : Value) (a : Nat) (st : List Value) (h : mr_h) (Q : Option Value → mr_h → Prop), mr_wp 166 119 [v0, v1, v2, v3, v4, v5] (.ref a :: st) h Q = mr_gf (h.1 a) 11 13 (fun v => mr_wp 166 122 [v0, v1, v2, v3, v4, v5] (v :: st) h Q)) ∧
    (∀ (v0 v1 v2 v3 v4 v5 : Value) (st : List Value) (h : mr_h) (Q : Option Value → mr_h → Prop), mr_wp 166 122 [v0, v1, v2, v3, v4, v5] st h Q = mr_wp 166 123 [v0, v1, v2, v3, v4, v5] (.int (0) :: st) h Q) ∧
    (∀ (v0 v1 v2 v3 v4 : Value) (x : Int32) (st : List Value) (h : mr_h) (Q : Option Value → mr_h → Prop), mr_wp 166 123 [v0, v1, v2, v3, v4, .int x] st h Q = mr_wp 166 125 [v0, v1, v2, v3, v4, .int x] (.int x :: st) h Q) ∧
    (∀ (v0 v1 v2 v3 v4 v5 : Value) (x : Int32) (y : Int32) (st : List Value) (h : mr_h) (Q : Option Value → mr_h → Prop), mr_wp 166 125 [v0, v1, v2, v3, v4, v5] (.int y :: .int x :: st) h Q = mr_wp 166 126 [v0, v1, v2, v3, v4, v5] (.int (x + y) :: st) h Q) ∧
    (∀ (v0 v1 v2 v3 v4 v5 : Value) (st : List Value) (h : mr_h) (Q : Option Value → mr_h → Prop), mr_wp 166 126 [v0, v1, v2, v3, v4, v5] st h Q = mr_wp 166 127 [v0, v1, v2, v3, v4, v5] (.int (0) :: st) h Q) ∧
    (∀ (v0 v1 v2 v3 v4 v5 : Value) (a : Nat) (x : Int32) (y : Int32) (st : List Value) (h : mr_h) (Q : Option Value → mr_h → Prop), mr_wp 166 127 [v0, v1, v2, v3, v4, v5] (.int y :: .int x :: .ref a :: st) h Q = mr_si (h.1 a) x y (fun c => mr_wp 166 128 [v0, v1, v2, v3, v4, v5] st (mr_up h a c) Q)) ∧
    (∀ (v1 v2 v3 v4 v5 : Value) (x : Nat) (st : List Value) (h : mr_h) (Q : Option Value → mr_h → Prop), mr_wp 166 128 [.ref x, v1, v2, v3, v4, v5] st h Q = mr_wp 166 129 [.ref x, v1, v2, v3, v4, v5] (.ref x :: st) h Q) ∧
    (∀ (v1 v2 v3 v4 v5 : Value) (x : Nat) (st : List Value) (h : mr_h) (Q : Option Value → mr_h → Prop), mr_wp 166 129 [.ref x, v1, v2, v3, v4, v5] st h Q = mr_wp 166 130 [.ref x, v1, v2, v3, v4, v5] (.ref x :: st) h Q) ∧
    (∀ (v0 v1 v2 v3 v4 v5 : Value) (a : Nat) (st : List Value) (h : mr_h) (Q : Option Value → mr_h → Prop), mr_wp 166 130 [v0, v1, v2, v3, v4, v5] (.ref a :: st) h Q = mr_gf (h.1 a) 11 13 (fun v => mr_wp 166 133 [v0, v1, v2, v3, v4, v5] (v :: st) h Q)) ∧
    (∀ (v1 v2 v3 v4 v5 : Value) (x : Nat) (st : List Value) (h : mr_h) (Q : Option Value → mr_h → Prop), mr_wp 166 133 [.ref x, v1, v2, v3, v4, v5] st h Q = mr_wp 166 134 [.ref x, v1, v2, v3, v4, v5] (.ref x :: st) h Q) ∧
    (∀ (v0 v1 v2 v3 v4 v5 : Value) (a : Nat) (st : List Value) (h : mr_h) (Q : Option Value → mr_h → Prop), mr_wp 166 134 [v0, v1, v2, v3, v4, v5] (.ref a :: st) h Q = mr_gf (h.1 a) 11 23 (fun v => mr_wp 166 137 [v0, v1, v2, v3, v4, v5] (v :: st) h Q)) :=
  ⟨fun v0 v1 v3 v4 v5 x st h Q => gx_one (i := .iload_n 2) (len := 1) (by decide +kernel) rfl,
   fun v0 v1 v2 v3 v4 v5 a0 o r0 h Q => gx_virt (x := 139) (n := 1) (by decide +kernel) (by decide +kernel) rfl (Or.inl (Nat.le_of_ble_eq_true rfl)) (by show _ ≤ mr_mxl 136; rw [show mr_mxl 136 = 4 from by decide +kernel]; exact Nat.le_of_ble_eq_true rfl) (by decide +kernel),
   fun v0 v1 v2 v3 v4 v5 x y st h Q => gx_one (i := .iand) (len := 1) (by decide +kernel) rfl,
   fun v0 v1 v2 v3 v4 v5 x h Q => gx_ret (i := .ireturn) (len := 1) (by decide +kernel) rfl rfl (by simp only [mr_rt, if_pos]; rw [if_pos (Or.inl (by decide +kernel))]),
   fun v0 v1 v2 v3 v4 v5 st h Q => gx_one (i := .iconst 1) (len := 1) (by decide +kernel) rfl,
   fun v0 v2 v3 v4 v5 x st h Q => gx_one (i := .iload_n 1) (len := 1) (by decide +kernel) rfl,
   fun v0 v1 v2 v3 v4 v5 x y st h Q => gx_one (i := .ishl) (len := 1) (by decide +kernel) rfl,
   fun v0 v1 v2 v3 v4 v5 st h Q => gx_one (i := .iconst 1) (len := 1) (by decide +kernel) rfl,
   fun v0 v1 v3 v4 v5 x st h Q => gx_one (i := .iload_n 2) (len := 1) (by decide +kernel) rfl,
   fun v0 v1 v2 v3 v4 v5 x y st h Q => gx_one (i := .ishl) (len := 1) (by decide +kernel) rfl,
   fun v0 v1 v2 v3 v4 v5 x y st h Q => gx_one (i := .ior) (len := 1) (by decide +kernel) rfl,
   fun v0 v1 v2 v4 v5 w3 x st h Q => gx_one (i := .istore 4) (len := 2) (by decide +kernel) rfl,
   fun v0 v1 v2 v3 v4 v5 st h Q => gx_one (i := .iconst 0) (len := 1) (by decide +kernel) rfl,
   fun v0 v1 v2 v3 v5 w4 x st h Q => gx_one (i := .istore 5) (len := 2) (by decide +kernel) rfl,
   fun v1 v2 v3 v4 v5 x st h Q => gx_one (i := .aload_n 0) (len := 1) (by decide +kernel) rfl,
   fun v0 v1 v2 v3 v4 v5 a st h Q => gx_get (x := 123) (by decide +kernel) (by decide +kernel),
   fun v0 v1 v2 v3 v4 v5 x y st h Q => gx_br (i := .if_icmp .ge 78) (len := 3) (c := .ge) (by decide +kernel) rfl rfl,
   fun v0 v2 v3 v4 v5 x st h Q => gx_one (i := .iload_n 1) (len := 1) (by decide +kernel) rfl,
   fun v0 v1 v3 v4 v5 x st h Q => gx_one (i := .iload_n 2) (len := 1) (by decide +kernel) rfl,
   fun v0 v1 v2 v3 v4 v5 x y st h Q => gx_br (i := .if_icmp .eq 73) (len := 3) (c := .eq) (by decide +kernel) rfl rfl,
   fun v0 v1 v2 v3 v4 x st h Q => gx_one (i := .iload 5) (len := 2) (by decide +kernel) rfl,
   fun v0 v2 v3 v4 v5 x st h Q => gx_one (i := .iload_n 1) (len := 1) (by decide +kernel) rfl,
   fun v0 v1 v2 v3 v4 v5 x y st h Q => gx_br (i := .if_icmp .eq 61) (len := 3) (c := .eq) (by decide +kernel) rfl rfl,
   fun v0 v1 v2 v3 v4 x st h Q => gx_one (i := .iload 5) (len := 2) (by decide +kernel) rfl,
   fun v0 v1 v3 v4 v5 x st h Q => gx_one (i := .iload_n 2) (len := 1) (by decide +kernel) rfl,
   fun v0 v1 v2 v3 v4 v5 x y st h Q => gx_br (i := .if_icmp .eq 55) (len := 3) (c := .eq) (by decide +kernel) rfl rfl,
   fun v1 v2 v3 v4 v5 x st h Q => gx_one (i := .aload_n 0) (len := 1) (by decide +kernel) rfl,
   fun v0 v1 v2 v3 v4 v5 o h Q => gx_virt (x := 176) (n := 0) (by decide +kernel) (by decide +kernel) rfl (Or.inl (Nat.le_of_ble_eq_true rfl)) (by show _ ≤ mr_mxl 153; rw [show mr_mxl 153 = 2 from by decide +kernel]; exact Nat.le_of_ble_eq_true rfl) (by decide +kernel),
   fun v1 v2 v3 v4 v5 x st h Q => gx_one (i := .aload_n 0) (len := 1) (by decide +kernel) rfl,
   fun v0 v1 v2 v3 v4 v5 a st h Q => gx_get (x := 19) (by decide +kernel) (by decide +kernel),
   fun v0 v1 v2 v3 v4 v5 st h Q => gx_one (i := .iconst 0) (len := 1) (by decide +kernel) rfl,
   fun v0 v1 v2 v3 v4 x st h Q => gx_one (i := .iload 5) (len := 2) (by decide +kernel) rfl,
   fun v0 v1 v2 v3 v4 v5 x y st h Q => gx_one (i := .iadd) (len := 1) (by decide +kernel) rfl,
   fun v0 v1 v2 v3 v4 v5 st h Q => gx_one (i := .iconst 0) (len := 1) (by decide +kernel) rfl,
   fun v0 v1 v2 v3 v4 v5 a x y st h Q => gx_iast (by decide +kernel),
   fun v1 v2 v3 v4 v5 x st h Q => gx_one (i := .aload_n 0) (len := 1) (by decide +kernel) rfl,
   fun v1 v2 v3 v4 v5 x st h Q => gx_one (i := .aload_n 0) (len := 1) (by decide +kernel) rfl,
   fun v0 v1 v2 v3 v4 v5 a st h Q => gx_get (x := 19) (by decide +kernel) (by decide +kernel),
   fun v1 v2 v3 v4 v5 x st h Q => gx_one (i := .aload_n 0) (len := 1) (by decide +kernel) rfl,
   fun v0 v1 v2 v3 v4 v5 a st h Q => gx_get (x := 44) (by decide +kernel) (by decide +kernel)⟩
theorem S_mo_on_2 : (∀ (v0 v1 v2 v3 v4 v5 : Value) (a0 : Nat) (a1 : Nat) (o : Nat) (h : mr_h) (Q : Option Value → mr_h → Prop), mr_wp 166 137 [v0, v1, v2, v3, v4, v5] [.ref a1, .ref a0, .ref o] h Q = mr_rc (h.1 o) 11 (mr_run 133 [.ref o, .ref a0, .ref a1] h (fun v h' => mr_wp 166 140 [v0, v1, v2, v3, v4, v5] (v.toList ++ []) h' Q))) ∧
    (∀ (v0 v1 v2 v3 v5 : Value) (x : Int32) (st : List Value) (h : mr_h) (Q : Option Value → mr_h → Prop), mr_wp 166 140 [v0, v1, v2, v3, .int x, v5] st h Q = mr_wp 166 142 [v0, v1, v2, v3, .int x, v5] (.int x :: st) h Q) ∧
    (∀ (v1 v2 v3 v4 v5 : Value) (x : Nat) (st : List Value) (h : mr_h) (Q : Option Value → mr_h → Prop), mr_wp 166 142 [.ref x, v1, v2, v3, v4, v5] st h Q = mr_wp 166 143 [.ref x, v1, v2, v3, v4, v5] (.ref x :: st) h Q) ∧
    (∀ (v0 v1 v2 v3 v4 v5 : Value) (a : Nat) (st : List Value) (h : mr_h) (Q : Option Value → mr_h → Prop), mr_wp 166 143 [v0, v1, v2, v3, v4, v5] (.ref a :: st) h Q = mr_gf (h.1 a) 11 23 (fun v => mr_wp 166 146 [v0, v1, v2, v3, v4, v5] (v :: st) h Q)) ∧
    (∀ (v0 v2 v3 v4 v5 : Value) (x : Int32) (st : List Value) (h : mr_h) (Q : Option Value → mr_h → Prop), mr_wp 166 146 [v0, .int x, v2, v3, v4, v5] st h Q = mr_wp 166 147 [v0, .int x, v2, v3, v4, v5] (.int x :: st) h Q) ∧
    (∀ (v0 v1 v2 v3 v4 v5 : Value) (a : Nat) (x : Int32) (st : List Value) (h : mr_h) (Q : Option Value → mr_h → Prop), mr_wp 166 147 [v0, v1, v2, v3, v4, v5] (.int x :: .ref a :: st) h Q = mr_ai (h.1 a) x (fun v => mr_wp 166 148 [v0, v1, v2, v3, v4, v5] (.int v :: st) h Q)) ∧
    (∀ (v0 v1 v3 v4 v5 : Value) (x : Int32) (st : List Value) (h : mr_h) (Q : Option Value → mr_h → Prop), mr_wp 166 148 [v0, v1, .int x, v3, v4, v5] st h Q = mr_wp 166 149 [v0, v1, .int x, v3, v4, v5] (.int x :: st) h Q) ∧
    (∀ (v0 v1 v2 v3 v4 v5 : Value) (a0 : Int32) (a1 : Int32) (r0 : Value) (h : mr_h) (Q : Option Value → mr_h → Prop), mr_wp 166 149 [v0, v1, v2, v3, v4, v5] [.int a1, .int a0, r0] h Q = mr_run 130 [.int a0, .int a1] h (fun v h' => mr_wp 166 152 [v0, v1, v2, v3, v4, v5] (v.toList ++ [r0]) h' Q)) ∧
    (∀ (v0 v1 v2 v3 v4 v5 : Value) (x : Int32) (st : List Value) (h : mr_h) (Q : Option Value → mr_h → Prop), mr_wp 166 152 [v0, v1, v2, v3, v4, v5] (.int x :: st) h Q = if x = 0 then mr_wp 166 159 [v0, v1, v2, v3, v4, v5] st h Q else mr_wp 166 155 [v0, v1, v2, v3, v4, v5] st h Q) ∧
    (∀ (v0 v1 v2 v3 v4 v5 : Value) (st : List Value) (h : mr_h) (Q : Option Value → mr_h → Prop), mr_wp 166 155 [v0, v1, v2, v3, v4, v5] st h Q = mr_wp 166 156 [v0, v1, v2, v3, v4, v5] (.int (0) :: st) h Q) ∧
    (∀ (v0 v1 v2 v3 v4 v5 : Value) (st : List Value) (h : mr_h) (Q : Option Value → mr_h → Prop), mr_wp 166 156 [v0, v1, v2, v3, v4, v5] st h Q = mr_wp 166 163 [v0, v1, v2, v3, v4, v5] st h Q) ∧
    (∀ (v0 v1 v2 v3 v4 v5 : Value) (st : List Value) (h : mr_h) (Q : Option Value → mr_h → Prop), mr_wp 166 159 [v0, v1, v2, v3, v4, v5] st h Q = mr_wp 166 160 [v0, v1, v2, v3, v4, v5] (.int (1) :: st) h Q) ∧
    (∀ (v0 v1 v2 v3 v4 : Value) (x : Int32) (st : List Value) (h : mr_h) (Q : Option Value → mr_h → Prop), mr_wp 166 160 [v0, v1, v2, v3, v4, .int x] st h Q = mr_wp 166 162 [v0, v1, v2, v3, v4, .int x] (.int x :: st) h Q) ∧
    (∀ (v0 v1 v2 v3 v4 v5 : Value) (x : Int32) (y : Int32) (st : List Value) (h : mr_h) (Q : Option Value → mr_h → Prop), mr_wp 166 162 [v0, v1, v2, v3, v4, v5] (.int y :: .int x :: st) h Q = mr_wp 166 163 [v0, v1, v2, v3, v4, v5] (.int (x <<< (y &&& 31)) :: st) h Q) ∧
    (∀ (v0 v1 v2 v3 v4 v5 : Value) (x : Int32) (y : Int32) (st : List Value) (h : mr_h) (Q : Option Value → mr_h → Prop), mr_wp 166 163 [v0, v1, v2, v3, v4, v5] (.int y :: .int x :: st) h Q = mr_wp 166 164 [v0, v1, v2, v3, v4, v5] (.int (x ||| y) :: st) h Q) ∧
    (∀ (v0 v1 v2 v4 v5 : Value) (w3 : Int32) (x : Int32) (st : List Value) (h : mr_h) (Q : Option Value → mr_h → Prop), mr_wp 166 164 [v0, v1, v2, .int w3, v4, v5] (.int x :: st) h Q = mr_wp 166 166 [v0, v1, v2, .int w3, .int x, v5] st h Q) ∧
    (∀ (v0 v1 v2 v3 : Value) (x : Int32) (w4 : Int32) (st : List Value) (h : mr_h) (Q : Option Value → mr_h → Prop), mr_wp 166 166 [v0, v1, v2, v3, .int w4, .int x] st h Q = mr_wp 166 169 [v0, v1, v2, v3, .int w4, .int (x + (1))] st h Q) ∧
    (∀ (v0 v1 v2 v3 v4 v5 : Value) (st : List Value) (h : mr_h) (Q : Option Value → mr_h → Prop), mr_wp 166 169 [v0, v1, v2, v3, v4, v5] st h Q = mr_wp 166 88 [v0, v1, v2, v3, v4, v5] st h Q) ∧
    (∀ (v0 v1 v2 v3 v5 : Value) (x : Int32) (st : List Value) (h : mr_h) (Q : Option Value → mr_h → Prop), mr_wp 166 172 [v0, v1, v2, v3, .int x, v5] st h Q = mr_wp 166 174 [v0, v1, v2, v3, .int x, v5] (.int x :: st) h Q) ∧
    (∀ (v0 v1 v2 v3 v4 v5 : Value) (x : Int32) (h : mr_h) (Q : Option Value → mr_h → Prop), mr_wp 166 174 [v0, v1, v2, v3, v4, v5] [.int x] h Q = Q (some (.int x)) h) :=
  ⟨fun v0 v1 v2 v3 v4 v5 a0 a1 o h Q => gx_virt (x := 158) (n := 2) (by decide +kernel) (by decide +kernel) rfl (Or.inl (Nat.le_of_ble_eq_true rfl)) (by show _ ≤ mr_mxl 133; rw [show mr_mxl 133 = 5 from by decide +kernel]; exact Nat.le_of_ble_eq_true rfl) (by decide +kernel),
   fun v0 v1 v2 v3 v5 x st h Q => gx_one (i := .iload 4) (len := 2) (by decide +kernel) rfl,
   fun v1 v2 v3 v4 v5 x st h Q => gx_one (i := .aload_n 0) (len := 1) (by decide +kernel) rfl,
   fun v0 v1 v2 v3 v4 v5 a st h Q => gx_get (x := 44) (by decide +kernel) (by decide +kernel),
   fun v0 v2 v3 v4 v5 x st h Q => gx_one (i := .iload_n 1) (len := 1) (by decide +kernel) rfl,
   fun v0 v1 v2 v3 v4 v5 a x st h Q => gx_iald (by decide +kernel),
   fun v0 v1 v3 v4 v5 x st h Q => gx_one (i := .iload_n 2) (len := 1) (by decide +kernel) rfl,
   fun v0 v1 v2 v3 v4 v5 a0 a1 r0 h Q => gx_stat (x := 116) (t := 130) (n := 2) (by decide +kernel) (by decide +kernel) (by decide) (by decide +kernel) rfl (Or.inl (Nat.le_of_ble_eq_true rfl)) (by show _ ≤ mr_mxl 130; rw [show mr_mxl 130 = 2 from by decide +kernel]; exact Nat.le_of_ble_eq_true rfl),
   fun v0 v1 v2 v3 v4 v5 x st h Q => gx_br (i := .ifCond .eq 7) (len := 3) (c := .eq) (by decide +kernel) rfl rfl,
   fun v0 v1 v2 v3 v4 v5 st h Q => gx_one (i := .iconst 0) (len := 1) (by decide +kernel) rfl,
   fun v0 v1 v2 v3 v4 v5 st h Q => gx_one (i := .goto 7) (len := 3) (by decide +kernel) rfl,
   fun v0 v1 v2 v3 v4 v5 st h Q => gx_one (i := .iconst 1) (len := 1) (by decide +kernel) rfl,
   fun v0 v1 v2 v3 v4 x st h Q => gx_one (i := .iload 5) (len := 2) (by decide +kernel) rfl,
   fun v0 v1 v2 v3 v4 v5 x y st h Q => gx_one (i := .ishl) (len := 1) (by decide +kernel) rfl,
   fun v0 v1 v2 v3 v4 v5 x y st h Q => gx_one (i := .ior) (len := 1) (by decide +kernel) rfl,
   fun v0 v1 v2 v4 v5 w3 x st h Q => gx_one (i := .istore 4) (len := 2) (by decide +kernel) rfl,
   fun v0 v1 v2 v3 x w4 st h Q => gx_one (i := .iinc 5 1) (len := 3) (by decide +kernel) rfl,
   fun v0 v1 v2 v3 v4 v5 st h Q => gx_one (i := .goto (-81)) (len := 3) (by decide +kernel) rfl,
   fun v0 v1 v2 v3 v5 x st h Q => gx_one (i := .iload 4) (len := 2) (by decide +kernel) rfl,
   fun v0 v1 v2 v3 v4 v5 x h Q => gx_ret (i := .ireturn) (len := 1) (by decide +kernel) rfl rfl (by simp only [mr_rt, if_pos]; rw [if_pos (Or.inl (by decide +kernel))])⟩

theorem S_mo_loss_0 : (∀ (v1 v2 v3 v4 : Value) (x : Nat) (st : List Value) (h : mr_h) (Q : Option Value → mr_h → Prop), mr_wp 167 0 [.ref x, v1, v2, v3, v4] st h Q = mr_wp 167 1 [.ref x, v1, v2, v3, v4] (.ref x :: st) h Q) ∧
    (∀ (v0 v1 v2 v3 v4 : Value) (st : List Value) (h : mr_h) (Q : Option Value → mr_h → Prop), mr_wp 167 1 [v0, v1, v2, v3, v4] st h Q = mr_wp 167 2 [v0, v1, v2, v3, v4] (.int (0) :: st) h Q) ∧
    (∀ (v0 v1 v2 v3 v4 : Value) (a : Nat) (x : Int32) (st : List Value) (h : mr_h) (Q : Option Value → mr_h → Prop), mr_wp 167 2 [v0, v1, v2, v3, v4] (.int x :: .ref a :: st) h Q = mr_pf (h.1 a) 11 0 (.int x) (fun c => mr_wp 167 5 [v0, v1, v2, v3, v4] st (mr_up h a c) Q)) ∧
    (∀ (v1 v2 v3 v4 : Value) (x : Nat) (st : List Value) (h : mr_h) (Q : Option Value → mr_h → Prop), mr_wp 167 5 [.ref x, v1, v2, v3, v4] st h Q = mr_wp 167 6 [.ref x, v1, v2, v3, v4] (.ref x :: st) h Q) ∧
    (∀ (v0 v2 v3 v4 : Value) (x : Int32) (st : List Value) (h : mr_h) (Q : Option Value → mr_h → Prop), mr_wp 167 6 [v0, .int x, v2, v3, v4] st h Q = mr_wp 167 7 [v0, .int x, v2, v3, v4] (.int x :: st) h Q) ∧
    (∀ (v0 v1 v3 v4 : Value) (x : Int32) (st : List Value) (h : mr_h) (Q : Option Value → mr_h → Prop), mr_wp 167 7 [v0, v1, .int x, v3, v4] st h Q = mr_wp 167 8 [v0, v1, .int x, v3, v4] (.int x :: st) h Q) ∧
    (∀ (v0 v1 v2 v3 v4 : Value) (a0 : Int32) (a1 : Int32) (o : Nat) (h : mr_h) (Q : Option Value → mr_h → Prop), mr_wp 167 8 [v0, v1, v2, v3, v4] [.int a1, .int a0, .ref o] h Q = mr_rc (h.1 o) 11 (mr_run 144 [.ref o, .int a0, .int a1] h (fun v h' => mr_wp 167 11 [v0, v1, v2, v3, v4] (v.toList ++ []) h' Q))) ∧
    (∀ (v0 v1 v2 v3 v4 : Value) (x : Int32) (st : List Value) (h : mr_h) (Q : Option Value → mr_h → Prop), mr_wp 167 11 [v0, v1, v2, v3, v4] (.int x :: st) h Q = if x = 0 then mr_wp 167 23 [v0, v1, v2, v3, v4] st h Q else mr_wp 167 14 [v0, v1, v2, v3, v4] st h Q) ∧
    (∀ (v0 v1 v2 v4 : Value) (x : Int32) (st : List Value) (h : mr_h) (Q : Option Value → mr_h → Prop), mr_wp 167 14 [v0, v1, v2, .int x, v4] st h Q = mr_wp 167 15 [v0, v1, v2, .int x, v4] (.int x :: st) h Q) ∧
    (∀ (v0 v1 v2 v3 v4 : Value) (st : List Value) (h : mr_h) (Q : Option Value → mr_h → Prop), mr_wp 167 15 [v0, v1, v2, v3, v4] st h Q = mr_wp 167 16 [v0, v1, v2, v3, v4] (.int (0) :: st) h Q) ∧
    (∀ (v0 v1 v2 v3 v4 : Value) (st : List Value) (h : mr_h) (Q : Option Value → mr_h → Prop), mr_wp 167 16 [v0, v1, v2, v3, v4] st h Q = mr_wp 167 17 [v0, v1, v2, v3, v4] (.int (1) :: st) h Q) ∧
    (∀ (v0 v1 v2 v3 v4 : Value) (a0 : Int32) (a1 : Int32) (a2 : Int32) (h : mr_h) (Q : Option Value → mr_h → Prop), mr_wp 167 17 [v0, v1, v2, v3, v4] [.int a2, .int a1, .int a0] h Q = mr_run 121 [.int a0, .int a1, .int a2] h (fun v h' => mr_wp 167 20 [v0, v1, v2, v3, v4] (v.toList ++ []) h' Q)) ∧
    (∀ (v0 v1 v2 v3 v4 : Value) (x : Int32) (st : List Value) (h : mr_h) (Q : Option Value → mr_h → Prop), mr_wp 167 20 [v0, v1, v2, v3, v4] (.int x :: st) h Q = if ¬ x = 0 then mr_wp 167 25 [v0, v1, v2, v3, v4] st h Q else mr_wp 167 23 [v0, v1, v2, v3, v4] st h Q) ∧
    (∀ (v0 v1 v2 v3 v4 : Value) (st : List Value) (h : mr_h) (Q : Option Value → mr_h → Prop), mr_wp 167 23 [v0, v1, v2, v3, v4] st h Q = mr_wp 167 24 [v0, v1, v2, v3, v4] (.int (-1) :: st) h Q) ∧
    (∀ (v0 v1 v2 v3 v4 : Value) (x : Int32) (h : mr_h) (Q : Option Value → mr_h → Prop), mr_wp 167 24 [v0, v1, v2, v3, v4] [.int x] h Q = Q (some (.int x)) h) ∧
    (∀ (v1 v2 v3 v4 : Value) (x : Nat) (st : List Value) (h : mr_h) (Q : Option Value → mr_h → Prop), mr_wp 167 25 [.ref x, v1, v2, v3, v4] st h Q = mr_wp 167 26 [.ref x, v1, v2, v3, v4] (.ref x :: st) h Q) ∧
    (∀ (v0 v1 v2 v3 v4 : Value) (a : Nat) (st : List Value) (h : mr_h) (Q : Option Value → mr_h → Prop), mr_wp 167 26 [v0, v1, v2, v3, v4] (.ref a :: st) h Q = mr_gf (h.1 a) 11 12 (fun v => mr_wp 167 29 [v0, v1, v2, v3, v4] (v :: st) h Q)) ∧
    (∀ (v0 v1 v2 v3 v4 : Value) (st : List Value) (h : mr_h) (Q : Option Value → mr_h → Prop), mr_wp 167 29 [v0, v1, v2, v3, v4] st h Q = mr_wp 167 30 [v0, v1, v2, v3, v4] (.int (0) :: st) h Q) ∧
    (∀ (v0 v2 v3 v4 : Value) (x : Int32) (st : List Value) (h : mr_h) (Q : Option Value → mr_h → Prop), mr_wp 167 30 [v0, .int x, v2, v3, v4] st h Q = mr_wp 167 31 [v0, .int x, v2, v3, v4] (.int x :: st) h Q) ∧
    (∀ (v0 v1 v2 v3 v4 : Value) (x : Int32) (y : Int32) (st : List Value) (h : mr_h) (Q : Option Value → mr_h → Prop), mr_wp 167 31 [v0, v1, v2, v3, v4] (.int y :: .int x :: st) h Q = mr_wp 167 32 [v0, v1, v2, v3, v4] (.int (x + y) :: st) h Q) ∧
    (∀ (v0 v1 v2 v3 v4 : Value) (a : Nat) (x : Int32) (st : List Value) (h : mr_h) (Q : Option Value → mr_h → Prop), mr_wp 167 32 [v0, v1, v2, v3, v4] (.int x :: .ref a :: st) h Q = mr_ai (h.1 a) x (fun v => mr_wp 167 33 [v0, v1, v2, v3, v4] (.int v :: st) h Q)) ∧
    (∀ (v0 v1 v3 v4 : Value) (x : Int32) (st : List Value) (h : mr_h) (Q : Option Value → mr_h → Prop), mr_wp 167 33 [v0, v1, .int x, v3, v4] st h Q = mr_wp 167 34 [v0, v1, .int x, v3, v4] (.int x :: st) h Q) ∧
    (∀ (v0 v1 v2 v3 v4 : Value) (a0 : Int32) (a1 : Int32) (h : mr_h) (Q : Option Value → mr_h → Prop), mr_wp 167 34 [v0, v1, v2, v3, v4] [.int a1, .int a0] h Q = mr_run 130 [.int a0, .int a1] h (fun v h' => mr_wp 167 37 [v0, v1, v2, v3, v4] (v.toList ++ []) h' Q)) ∧
    (∀ (v0 v1 v2 v3 v4 : Value) (x : Int32) (st : List Value) (h : mr_h) (Q : Option Value → mr_h → Prop), mr_wp 167 37 [v0, v1, v2, v3, v4] (.int x :: st) h Q = if ¬ x = 0 then mr_wp 167 43 [v0, v1, v2, v3, v4] st h Q else mr_wp 167 40 [v0, v1, v2, v3, v4] st h Q) ∧
    (∀ (v0 v1 v2 v3 v4 : Value) (st : List Value) (h : mr_h) (Q : Option Value → mr_h → Prop), mr_wp 167 40 [v0, v1, v2, v3, v4] st h Q = mr_wp 167 42 [v0, v1, v2, v3, v4] (.int (-2) :: st) h Q) ∧
    (∀ (v0 v1 v2 v3 v4 : Value) (x : Int32) (h : mr_h) (Q : Option Value → mr_h → Prop), mr_wp 167 42 [v0, v1, v2, v3, v4] [.int x] h Q = Q (some (.int x)) h) ∧
    (∀ (v1 v2 v3 v4 : Value) (x : Nat) (st : List Value) (h : mr_h) (Q : Option Value → mr_h → Prop), mr_wp 167 43 [.ref x, v1, v2, v3, v4] st h Q = mr_wp 167 44 [.ref x, v1, v2, v3, v4] (.ref x :: st) h Q) ∧
    (∀ (v0 v1 v2 v3 v4 : Value) (o : Nat) (h : mr_h) (Q : Option Value → mr_h → Prop), mr_wp 167 44 [v0, v1, v2, v3, v4] [.ref o] h Q = mr_rc (h.1 o) 11 (mr_run 151 [.ref o] h (fun v h' => mr_wp 167 47 [v0, v1, v2, v3, v4] (v.toList ++ []) h' Q))) ∧
    (∀ (v1 v2 v3 v4 : Value) (x : Nat) (st : List Value) (h : mr_h) (Q : Option Value → mr_h → Prop), mr_wp 167 47 [.ref x, v1, v2, v3, v4] st h Q = mr_wp 167 48 [.ref x, v1, v2, v3, v4] (.ref x :: st) h Q) ∧
    (∀ (v0 v2 v3 v4 : Value) (x : Int32) (st : List Value) (h : mr_h) (Q : Option Value → mr_h → Prop), mr_wp 167 48 [v0, .int x, v2, v3, v4] st h Q = mr_wp 167 49 [v0, .int x, v2, v3, v4] (.int x :: st) h Q) ∧
    (∀ (v0 v1 v3 v4 : Value) (x : Int32) (st : List Value) (h : mr_h) (Q : Option Value → mr_h → Prop), mr_wp 167 49 [v0, v1, .int x, v3, v4] st h Q = mr_wp 167 50 [v0, v1, .int x, v3, v4] (.int x :: st) h Q) ∧
    (∀ (v0 v1 v2 v3 v4 : Value) (a0 : Int32) (a1 : Int32) (o : Nat) (r0 : Value) (h : mr_h) (Q : Option Value → mr_h → Prop), mr_wp 167 50 [v0, v1, v2, v3, v4] [.int a1, .int a0, .ref o, r0] h Q = mr_rc (h.1 o) 11 (mr_run 152 [.ref o, .int a0, .int a1] h (fun v h' => mr_wp 167 53 [v0, v1, v2, v3, v4] (v.toList ++ [r0]) h' Q))) ∧
    (∀ (v0 v1 v2 v3 v4 : Value) (x : Int32) (y : Int32) (st : List Value) (h : mr_h) (Q : Option Value → mr_h → Prop), mr_wp 167 53 [v0, v1, v2, v3, v4] (.int y :: .int x :: st) h Q = mr_wp 167 54 [v0, v1, v2, v3, v4] (.int (x - y) :: st) h Q) ∧
    (∀ (v0 v1 v2 v4 : Value) (w3 : Int32) (x : Int32) (st : List Value) (h : mr_h) (Q : Option Value → mr_h → Prop), mr_wp 167 54 [v0, v1, v2, .int w3, v4] (.int x :: st) h Q = mr_wp 167 56 [v0, v1, v2, .int w3, .int x] st h Q) ∧
    (∀ (v0 v1 v2 v4 : Value) (x : Int32) (st : List Value) (h : mr_h) (Q : Option Value → mr_h → Prop), mr_wp 167 56 [v0, v1, v2, .int x, v4] st h Q = mr_wp 167 57 [v0, v1, v2, .int x, v4] (.int x :: st) h Q) ∧
    (∀ (v0 v1 v2 v3 v4 : Value) (st : List Value) (h : mr_h) (Q : Option Value → mr_h → Prop), mr_wp 167 57 [v0, v1, v2, v3, v4] st h Q = mr_wp 167 58 [v0, v1, v2, v3, v4] (.int (1) :: st) h Q) ∧
    (∀ (v0 v1 v2 v3 v4 : Value) (x : Int32) (y : Int32) (st : List Value) (h : mr_h) (Q : Option Value → mr_h → Prop), mr_wp 167 58 [v0, v1, v2, v3, v4] (.int y :: .int x :: st) h Q = if ¬ x = y then mr_wp 167 66 [v0, v1, v2, v3, v4] st h Q else mr_wp 167 61 [v0, v1, v2, v3, v4] st h Q) ∧
    (∀ (v0 v1 v2 v3 : Value) (x : Int32) (st : List Value) (h : mr_h) (Q : Option Value → mr_h → Prop), mr_wp 167 61 [v0, v1, v2, v3, .int x] st h Q = mr_wp 167 63 [v0, v1, v2, v3, .int x] (.int x :: st) h Q) ∧
    (∀ (v0 v1 v2 v3 v4 : Value) (st : List Value) (h : mr_h) (Q : Option Value → mr_h → Prop), mr_wp 167 63 [v0, v1, v2, v3, v4] st h Q = mr_wp 167 76 [v0, v1, v2, v3, v4] st h Q) ∧
    (∀ (v0 v1 v2 v3 : Value) (x : Int32) (st : List Value) (h : mr_h) (Q : Option Value → mr_h → Prop), mr_wp 167 66 [v0, v1, v2, v3, .int x] st h Q = mr_wp 167 68 [v0, v1, v2, v3, .int x] (.int x :: st) h Q) :=
  ⟨fun v1 v2 v3 v4 x st h Q => gx_one (i := .aload_n 0) (len := 1) (by decide +kernel) rfl,
   fun v0 v1 v2 v3 v4 st h Q => gx_one (i := .iconst 0) (len := 1) (by decide +kernel) rfl,
   fun v0 v1 v2 v3 v4 a x st h Q => gx_put (x := 65) (by decide +kernel) (by decide +kernel) ⟨rfl, Or.inl rfl⟩,
   fun v1 v2 v3 v4 x st h Q => gx_one (i := .aload_n 0) (len := 1) (by decide +kernel) rfl,
   fun v0 v2 v3 v4 x st h Q => gx_one (i := .iload_n 1) (len := 1) (by decide +kernel) rfl,
   fun v0 v1 v3 v4 x st h Q => gx_one (i := .iload_n 2) (len := 1) (by decide +kernel) rfl,
   fun v0 v1 v2 v3 v4 a0 a1 o h Q => gx_virt (x := 173) (n := 2) (by decide +kernel) (by decide +kernel) rfl (Or.inl (Nat.le_of_ble_eq_true rfl)) (by show _ ≤ mr_mxl 144; rw [show mr_mxl 144 = 3 from by decide +kernel]; exact Nat.le_of_ble_eq_true rfl) (by decide +kernel),
   fun v0 v1 v2 v3 v4 x st h Q => gx_br (i := .ifCond .eq 12) (len := 3) (c := .eq) (by decide +kernel) rfl rfl,
   fun v0 v1 v2 v4 x st h Q => gx_one (i := .iload_n 3) (len := 1) (by decide +kernel) rfl,
   fun v0 v1 v2 v3 v4 st h Q => gx_one (i := .iconst 0) (len := 1) (by decide +kernel) rfl,
   fun v0 v1 v2 v3 v4 st h Q => gx_one (i := .iconst 1) (len := 1) (by decide +kernel) rfl,
   fun v0 v1 v2 v3 v4 a0 a1 a2 h Q => gx_stat (x := 69) (t := 121) (n := 3) (by decide +kernel) (by decide +kernel) (by decide) (by decide +kernel) rfl (Or.inl (Nat.le_of_ble_eq_true rfl)) (by show _ ≤ mr_mxl 121; rw [show mr_mxl 121 = 3 from by decide +kernel]; exact Nat.le_of_ble_eq_true rfl),
   fun v0 v1 v2 v3 v4 x st h Q => gx_br (i := .ifCond .ne 5) (len := 3) (c := .ne) (by decide +kernel) rfl rfl,
   fun v0 v1 v2 v3 v4 st h Q => gx_one (i := .iconst (-1)) (len := 1) (by decide +kernel) rfl,
   fun v0 v1 v2 v3 v4 x h Q => gx_ret (i := .ireturn) (len := 1) (by decide +kernel) rfl rfl (by simp only [mr_rt, if_pos]; rw [if_pos (Or.inl (by decide +kernel))]),
   fun v1 v2 v3 v4 x st h Q => gx_one (i := .aload_n 0) (len := 1) (by decide +kernel) rfl,
   fun v0 v1 v2 v3 v4 a st h Q => gx_get (x := 16) (by decide +kernel) (by decide +kernel),
   fun v0 v1 v2 v3 v4 st h Q => gx_one (i := .iconst 0) (len := 1) (by decide +kernel) rfl,
   fun v0 v2 v3 v4 x st h Q => gx_one (i := .iload_n 1) (len := 1) (by decide +kernel) rfl,
   fun v0 v1 v2 v3 v4 x y st h Q => gx_one (i := .iadd) (len := 1) (by decide +kernel) rfl,
   fun v0 v1 v2 v3 v4 a x st h Q => gx_iald (by decide +kernel),
   fun v0 v1 v3 v4 x st h Q => gx_one (i := .iload_n 2) (len := 1) (by decide +kernel) rfl,
   fun v0 v1 v2 v3 v4 a0 a1 h Q => gx_stat (x := 116) (t := 130) (n := 2) (by decide +kernel) (by decide +kernel) (by decide) (by decide +kernel) rfl (Or.inl (Nat.le_of_ble_eq_true rfl)) (by show _ ≤ mr_mxl 130; rw [show mr_mxl 130 = 2 from by decide +kernel]; exact Nat.le_of_ble_eq_true rfl),
   fun v0 v1 v2 v3 v4 x st h Q => gx_br (i := .ifCond .ne 6) (len := 3) (c := .ne) (by decide +kernel) rfl rfl,
   fun v0 v1 v2 v3 v4 st h Q => gx_one (i := .bipush (-2)) (len := 2) (by decide +kernel) rfl,
   fun v0 v1 v2 v3 v4 x h Q => gx_ret (i := .ireturn) (len := 1) (by decide +kernel) rfl rfl (by simp only [mr_rt, if_pos]; rw [if_pos (Or.inl (by decide +kernel))]),
   fun v1 v2 v3 v4 x st h Q => gx_one (i := .aload_n 0) (len := 1) (by decide +kernel) rfl,
   fun v0 v1 v2 v3 v4 o h Q => gx_virt (x := 183) (n := 0) (by decide +kernel) (by decide +kernel) rfl (Or.inl (Nat.le_of_ble_eq_true rfl)) (by show _ ≤ mr_mxl 151; rw [show mr_mxl 151 = 1 from by decide +kernel]; exact Nat.le_of_ble_eq_true rfl) (by decide +kernel),
   fun v1 v2 v3 v4 x st h Q => gx_one (i := .aload_n 0) (len := 1) (by decide +kernel) rfl,
   fun v0 v2 v3 v4 x st h Q => gx_one (i := .iload_n 1) (len := 1) (by decide +kernel) rfl,
   fun v0 v1 v3 v4 x st h Q => gx_one (i := .iload_n 2) (len := 1) (by decide +kernel) rfl,
   fun v0 v1 v2 v3 v4 a0 a1 o r0 h Q => gx_virt (x := 186) (n := 2) (by decide +kernel) (by decide +kernel) rfl (Or.inl (Nat.le_of_ble_eq_true rfl)) (by show _ ≤ mr_mxl 152; rw [show mr_mxl 152 = 3 from by decide +kernel]; exact Nat.le_of_ble_eq_true rfl) (by decide +kernel),
   fun v0 v1 v2 v3 v4 x y st h Q => gx_one (i := .isub) (len := 1) (by decide +kernel) rfl,
   fun v0 v1 v2 v4 w3 x st h Q => gx_one (i := .istore 4) (len := 2) (by decide +kernel) rfl,
   fun v0 v1 v2 v4 x st h Q => gx_one (i := .iload_n 3) (len := 1) (by decide +kernel) rfl,
   fun v0 v1 v2 v3 v4 st h Q => gx_one (i := .iconst 1) (len := 1) (by decide +kernel) rfl,
   fun v0 v1 v2 v3 v4 x y st h Q => gx_br (i := .if_icmp .ne 8) (len := 3) (c := .ne) (by decide +kernel) rfl rfl,
   fun v0 v1 v2 v3 x st h Q => gx_one (i := .iload 4) (len := 2) (by decide +kernel) rfl,
   fun v0 v1 v2 v3 v4 st h Q => gx_one (i := .goto 13) (len := 3) (by decide +kernel) rfl,
   fun v0 v1 v2 v3 x st h Q => gx_one (i := .iload 4) (len := 2) (by decide +kernel) rfl⟩
theorem S_mo_loss_1 : (∀ (v0 v1 v2 v3 v4 : Value) (x : Int32) (st : List Value) (h : mr_h) (Q : Option Value → mr_h → Prop), mr_wp 167 68 [v0, v1, v2, v3, v4] (.int x :: st) h Q = if ¬ x = 0 then mr_wp 167 75 [v0, v1, v2, v3, v4] st h Q else mr_wp 167 71 [v0, v1, v2, v3, v4] st h Q) ∧
    (∀ (v0 v1 v2 v3 v4 : Value) (st : List Value) (h : mr_h) (Q : Option Value → mr_h → Prop), mr_wp 167 71 [v0, v1, v2, v3, v4] st h Q = mr_wp 167 72 [v0, v1, v2, v3, v4] (.int (1) :: st) h Q) ∧
    (∀ (v0 v1 v2 v3 v4 : Value) (st : List Value) (h : mr_h) (Q : Option Value → mr_h → Prop), mr_wp 167 72 [v0, v1, v2, v3, v4] st h Q = mr_wp 167 76 [v0, v1, v2, v3, v4] st h Q) ∧
    (∀ (v0 v1 v2 v3 v4 : Value) (st : List Value) (h : mr_h) (Q : Option Value → mr_h → Prop), mr_wp 167 75 [v0, v1, v2, v3, v4] st h Q = mr_wp 167 76 [v0, v1, v2, v3, v4] (.int (0) :: st) h Q) ∧
    (∀ (v0 v1 v2 v3 v4 : Value) (x : Int32) (h : mr_h) (Q : Option Value → mr_h → Prop), mr_wp 167 76 [v0, v1, v2, v3, v4] [.int x] h Q = Q (some (.int x)) h) :=
  ⟨fun v0 v1 v2 v3 v4 x st h Q => gx_br (i := .ifCond .ne 7) (len := 3) (c := .ne) (by decide +kernel) rfl rfl,
   fun v0 v1 v2 v3 v4 st h Q => gx_one (i := .iconst 1) (len := 1) (by decide +kernel) rfl,
   fun v0 v1 v2 v3 v4 st h Q => gx_one (i := .goto 4) (len := 3) (by decide +kernel) rfl,
   fun v0 v1 v2 v3 v4 st h Q => gx_one (i := .iconst 0) (len := 1) (by decide +kernel) rfl,
   fun v0 v1 v2 v3 v4 x h Q => gx_ret (i := .ireturn) (len := 1) (by decide +kernel) rfl rfl (by simp only [mr_rt, if_pos]; rw [if_pos (Or.inl (by decide +kernel))])⟩

theorem S_mo_gain : (∀ (v1 v2 : Value) (x : Nat) (st : List Value) (h : mr_h) (Q : Option Value → mr_h → Prop), mr_wp 168 0 [.ref x, v1, v2] st h Q = mr_wp 168 1 [.ref x, v1, v2] (.ref x :: st) h Q) ∧
    (∀ (v0 v1 v2 : Value) (st : List Value) (h : mr_h) (Q : Option Value → mr_h → Prop), mr_wp 168 1 [v0, v1, v2] st h Q = mr_wp 168 2 [v0, v1, v2] (.int (0) :: st) h Q) ∧
    (∀ (v0 v1 v2 : Value) (a : Nat) (x : Int32) (st : List Value) (h : mr_h) (Q : Option Value → mr_h → Prop), mr_wp 168 2 [v0, v1, v2] (.int x :: .ref a :: st) h Q = mr_pf (h.1 a) 11 0 (.int x) (fun c => mr_wp 168 5 [v0, v1, v2] st (mr_up h a c) Q)) ∧
    (∀ (v1 v2 : Value) (x : Nat) (st : List Value) (h : mr_h) (Q : Option Value → mr_h → Prop), mr_wp 168 5 [.ref x, v1, v2] st h Q = mr_wp 168 6 [.ref x, v1, v2] (.ref x :: st) h Q) ∧
    (∀ (v0 v2 : Value) (x : Int32) (st : List Value) (h : mr_h) (Q : Option Value → mr_h → Prop), mr_wp 168 6 [v0, .int x, v2] st h Q = mr_wp 168 7 [v0, .int x, v2] (.int x :: st) h Q) ∧
    (∀ (v0 v1 : Value) (x : Int32) (st : List Value) (h : mr_h) (Q : Option Value → mr_h → Prop), mr_wp 168 7 [v0, v1, .int x] st h Q = mr_wp 168 8 [v0, v1, .int x] (.int x :: st) h Q) ∧
    (∀ (v0 v1 v2 : Value) (a0 : Int32) (a1 : Int32) (o : Nat) (h : mr_h) (Q : Option Value → mr_h → Prop), mr_wp 168 8 [v0, v1, v2] [.int a1, .int a0, .ref o] h Q = mr_rc (h.1 o) 11 (mr_run 144 [.ref o, .int a0, .int a1] h (fun v h' => mr_wp 168 11 [v0, v1, v2] (v.toList ++ []) h' Q))) ∧
    (∀ (v0 v1 v2 : Value) (x : Int32) (st : List Value) (h : mr_h) (Q : Option Value → mr_h → Prop), mr_wp 168 11 [v0, v1, v2] (.int x :: st) h Q = if ¬ x = 0 then mr_wp 168 16 [v0, v1, v2] st h Q else mr_wp 168 14 [v0, v1, v2] st h Q) ∧
    (∀ (v0 v1 v2 : Value) (st : List Value) (h : mr_h) (Q : Option Value → mr_h → Prop), mr_wp 168 14 [v0, v1, v2] st h Q = mr_wp 168 15 [v0, v1, v2] (.int (-1) :: st) h Q) ∧
    (∀ (v0 v1 v2 : Value) (x : Int32) (h : mr_h) (Q : Option Value → mr_h → Prop), mr_wp 168 15 [v0, v1, v2] [.int x] h Q = Q (some (.int x)) h) ∧
    (∀ (v1 v2 : Value) (x : Nat) (st : List Value) (h : mr_h) (Q : Option Value → mr_h → Prop), mr_wp 168 16 [.ref x, v1, v2] st h Q = mr_wp 168 17 [.ref x, v1, v2] (.ref x :: st) h Q) ∧
    (∀ (v0 v1 v2 : Value) (a : Nat) (st : List Value) (h : mr_h) (Q : Option Value → mr_h → Prop), mr_wp 168 17 [v0, v1, v2] (.ref a :: st) h Q = mr_gf (h.1 a) 11 12 (fun v => mr_wp 168 20 [v0, v1, v2] (v :: st) h Q)) ∧
    (∀ (v0 v1 v2 : Value) (st : List Value) (h : mr_h) (Q : Option Value → mr_h → Prop), mr_wp 168 20 [v0, v1, v2] st h Q = mr_wp 168 21 [v0, v1, v2] (.int (0) :: st) h Q) ∧
    (∀ (v0 v2 : Value) (x : Int32) (st : List Value) (h : mr_h) (Q : Option Value → mr_h → Prop), mr_wp 168 21 [v0, .int x, v2] st h Q = mr_wp 168 22 [v0, .int x, v2] (.int x :: st) h Q) ∧
    (∀ (v0 v1 v2 : Value) (x : Int32) (y : Int32) (st : List Value) (h : mr_h) (Q : Option Value → mr_h → Prop), mr_wp 168 22 [v0, v1, v2] (.int y :: .int x :: st) h Q = mr_wp 168 23 [v0, v1, v2] (.int (x + y) :: st) h Q) ∧
    (∀ (v0 v1 v2 : Value) (a : Nat) (x : Int32) (st : List Value) (h : mr_h) (Q : Option Value → mr_h → Prop), mr_wp 168 23 [v0, v1, v2] (.int x :: .ref a :: st) h Q = mr_ai (h.1 a) x (fun v => mr_wp 168 24 [v0, v1, v2] (.int v :: st) h Q)) ∧
    (∀ (v0 v1 : Value) (x : Int32) (st : List Value) (h : mr_h) (Q : Option Value → mr_h → Prop), mr_wp 168 24 [v0, v1, .int x] st h Q = mr_wp 168 25 [v0, v1, .int x] (.int x :: st) h Q) ∧
    (∀ (v0 v1 v2 : Value) (a0 : Int32) (a1 : Int32) (h : mr_h) (Q : Option Value → mr_h → Prop), mr_wp 168 25 [v0, v1, v2] [.int a1, .int a0] h Q = mr_run 130 [.int a0, .int a1] h (fun v h' => mr_wp 168 28 [v0, v1, v2] (v.toList ++ []) h' Q)) ∧
    (∀ (v0 v1 v2 : Value) (x : Int32) (st : List Value) (h : mr_h) (Q : Option Value → mr_h → Prop), mr_wp 168 28 [v0, v1, v2] (.int x :: st) h Q = if x = 0 then mr_wp 168 36 [v0, v1, v2] st h Q else mr_wp 168 31 [v0, v1, v2] st h Q) ∧
    (∀ (v0 v1 v2 : Value) (st : List Value) (h : mr_h) (Q : Option Value → mr_h → Prop), mr_wp 168 31 [v0, v1, v2] st h Q = mr_wp 168 33 [v0, v1, v2] (.int (-2) :: st) h Q) ∧
    (∀ (v0 v1 v2 : Value) (st : List Value) (h : mr_h) (Q : Option Value → mr_h → Prop), mr_wp 168 33 [v0, v1, v2] st h Q = mr_wp 168 47 [v0, v1, v2] st h Q) ∧
    (∀ (v1 v2 : Value) (x : Nat) (st : List Value) (h : mr_h) (Q : Option Value → mr_h → Prop), mr_wp 168 36 [.ref x, v1, v2] st h Q = mr_wp 168 37 [.ref x, v1, v2] (.ref x :: st) h Q) ∧
    (∀ (v0 v2 : Value) (x : Int32) (st : List Value) (h : mr_h) (Q : Option Value → mr_h → Prop), mr_wp 168 37 [v0, .int x, v2] st h Q = mr_wp 168 38 [v0, .int x, v2] (.int x :: st) h Q) ∧
    (∀ (v0 v1 : Value) (x : Int32) (st : List Value) (h : mr_h) (Q : Option Value → mr_h → Prop), mr_wp 168 38 [v0, v1, .int x] st h Q = mr_wp 168 39 [v0, v1, .int x] (.int x :: st) h Q) ∧
    (∀ (v0 v1 v2 : Value) (a0 : Int32) (a1 : Int32) (o : Nat) (h : mr_h) (Q : Option Value → mr_h → Prop), mr_wp 168 39 [v0, v1, v2] [.int a1, .int a0, .ref o] h Q = mr_rc (h.1 o) 11 (mr_run 152 [.ref o, .int a0, .int a1] h (fun v h' => mr_wp 168 42 [v0, v1, v2] (v.toList ++ []) h' Q))) ∧
    (∀ (v1 v2 : Value) (x : Nat) (st : List Value) (h : mr_h) (Q : Option Value → mr_h → Prop), mr_wp 168 42 [.ref x, v1, v2] st h Q = mr_wp 168 43 [.ref x, v1, v2] (.ref x :: st) h Q) ∧
    (∀ (v0 v1 v2 : Value) (o : Nat) (r0 : Value) (h : mr_h) (Q : Option Value → mr_h → Prop), mr_wp 168 43 [v0, v1, v2] [.ref o, r0] h Q = mr_rc (h.1 o) 11 (mr_run 151 [.ref o] h (fun v h' => mr_wp 168 46 [v0, v1, v2] (v.toList ++ [r0]) h' Q))) ∧
    (∀ (v0 v1 v2 : Value) (x : Int32) (y : Int32) (st : List Value) (h : mr_h) (Q : Option Value → mr_h → Prop), mr_wp 168 46 [v0, v1, v2] (.int y :: .int x :: st) h Q = mr_wp 168 47 [v0, v1, v2] (.int (x - y) :: st) h Q) ∧
    (∀ (v0 v1 v2 : Value) (x : Int32) (h : mr_h) (Q : Option Value → mr_h → Prop), mr_wp 168 47 [v0, v1, v2] [.int x] h Q = Q (some (.int x)) h) :=
  ⟨fun v1 v2 x st h Q => gx_one (i := .aload_n 0) (len := 1) (by decide +kernel) rfl,
   fun v0 v1 v2 st h Q => gx_one (i := .iconst 0) (len := 1) (by decide +kernel) rfl,
   fun v0 v1 v2 a x st h Q => gx_put (x := 65) (by decide +kernel) (by decide +kernel) ⟨rfl, Or.inl rfl⟩,
   fun v1 v2 x st h Q => gx_one (i := .aload_n 0) (len := 1) (by decide +kernel) rfl,
   fun v0 v2 x st h Q => gx_one (i := .iload_n 1) (len := 1) (by decide +kernel) rfl,
   fun v0 v1 x st h Q => gx_one (i := .iload_n 2) (len := 1) (by decide +kernel) rfl,
   fun v0 v1 v2 a0 a1 o h Q => gx_virt (x := 173) (n := 2) (by decide +kernel) (by decide +kernel) rfl (Or.inl (Nat.le_of_ble_eq_true rfl)) (by show _ ≤ mr_mxl 144; rw [show mr_mxl 144 = 3 from by decide +kernel]; exact Nat.le_of_ble_eq_true rfl) (by decide +kernel),
   fun v0 v1 v2 x st h Q => gx_br (i := .ifCond .ne 5) (len := 3) (c := .ne) (by decide +kernel) rfl rfl,
   fun v0 v1 v2 st h Q => gx_one (i := .iconst (-1)) (len := 1) (by decide +kernel) rfl,
   fun v0 v1 v2 x h Q => gx_ret (i := .ireturn) (len := 1) (by decide +kernel) rfl rfl (by simp only [mr_rt, if_pos]; rw [if_pos (Or.inl (by decide +kernel))]),
   fun v1 v2 x st h Q => gx_one (i := .aload_n 0) (len := 1) (by decide +kernel) rfl,
   fun v0 v1 v2 a st h Q => gx_get (x := 16) (by decide +kernel) (by decide +kernel),
   fun v0 v1 v2 st h Q => gx_one (i := .iconst 0) (len := 1) (by decide +kernel) rfl,
   fun v0 v2 x st h Q => gx_one (i := .iload_n 1) (len := 1) (by decide +kernel) rfl,
   fun v0 v1 v2 x y st h Q => gx_one (i := .iadd) (len := 1) (by decide +kernel) rfl,
   fun v0 v1 v2 a x st h Q => gx_iald (by decide +kernel),
   fun v0 v1 x st h Q => gx_one (i := .iload_n 2) (len := 1) (by decide +kernel) rfl,
   fun v0 v1 v2 a0 a1 h Q => gx_stat (x := 116) (t := 130) (n := 2) (by decide +kernel) (by decide +kernel) (by decide) (by decide +kernel) rfl (Or.inl (Nat.le_of_ble_eq_true rfl)) (by show _ ≤ mr_mxl 130; rw [show mr_mxl 130 = 2 from by decide +kernel]; exact Nat.le_of_ble_eq_true rfl),
   fun v0 v1 v2 x st h Q => gx_br (i := .ifCond .eq 8) (len := 3) (c := .eq) (by decide +kernel) rfl rfl,
   fun v0 v1 v2 st h Q => gx_one (i := .bipush (-2)) (len := 2) (by decide +kernel) rfl,
   fun v0 v1 v2 st h Q => gx_one (i := .goto 14) (len := 3) (by decide +kernel) rfl,
   fun v1 v2 x st h Q => gx_one (i := .aload_n 0) (len := 1) (by decide +kernel) rfl,
   fun v0 v2 x st h Q => gx_one (i := .iload_n 1) (len := 1) (by decide +kernel) rfl,
   fun v0 v1 x st h Q => gx_one (i := .iload_n 2) (len := 1) (by decide +kernel) rfl,
   fun v0 v1 v2 a0 a1 o h Q => gx_virt (x := 186) (n := 2) (by decide +kernel) (by decide +kernel) rfl (Or.inl (Nat.le_of_ble_eq_true rfl)) (by show _ ≤ mr_mxl 152; rw [show mr_mxl 152 = 3 from by decide +kernel]; exact Nat.le_of_ble_eq_true rfl) (by decide +kernel),
   fun v1 v2 x st h Q => gx_one (i := .aload_n 0) (len := 1) (by decide +kernel) rfl,
   fun v0 v1 v2 o r0 h Q => gx_virt (x := 183) (n := 0) (by decide +kernel) (by decide +kernel) rfl (Or.inl (Nat.le_of_ble_eq_true rfl)) (by show _ ≤ mr_mxl 151; rw [show mr_mxl 151 = 1 from by decide +kernel]; exact Nat.le_of_ble_eq_true rfl) (by decide +kernel),
   fun v0 v1 v2 x y st h Q => gx_one (i := .isub) (len := 1) (by decide +kernel) rfl,
   fun v0 v1 v2 x h Q => gx_ret (i := .ireturn) (len := 1) (by decide +kernel) rfl rfl (by simp only [mr_rt, if_pos]; rw [if_pos (Or.inl (by decide +kernel))])⟩
theorem s_mo_best_31 (v0 v1 v2 v3 v4 v6 v7 : Value) (x : Int32) (st : List Value) (h : mr_h) (Q : Option Value → mr_h → Prop) : mr_wp 169 31 [v0, v1, v2, v3, v4, .int x, v6, v7] st h Q = mr_wp 169 33 [v0, v1, v2, v3, v4, .int x, v6, v7] (.int x :: st) h Q := gx_one (i := .iload 5) (len := 2) (by decide +kernel) rfl
theorem s_mo_best_43 (v0 v1 v2 v3 v4 v5 v7 : Value) (x : Int32) (st : List Value) (h : mr_h) (Q : Option Value → mr_h → Prop) : mr_wp 169 43 [v0, v1, v2, v3, v4, v5, .int x, v7] st h Q = mr_wp 169 45 [v0, v1, v2, v3, v4, v5, .int x, v7] (.int x :: st) h Q := gx_one (i := .iload 6) (len := 2) (by decide +kernel) rfl
theorem S_mo_best_0 : (∀ (v1 v2 v3 v4 v5 v6 v7 : Value) (x : Nat) (st : List Value) (h : mr_h) (Q : Option Value → mr_h → Prop), mr_wp 169 0 [.ref x, v1, v2, v3, v4, v5, v6, v7] st h Q = mr_wp 169 1 [.ref x, v1, v2, v3, v4, v5, v6, v7] (.ref x :: st) h Q) ∧
    (∀ (v0 v1 v2 v3 v4 v5 v6 v7 : Value) (st : List Value) (h : mr_h) (Q : Option Value → mr_h → Prop), mr_wp 169 1 [v0, v1, v2, v3, v4, v5, v6, v7] st h Q = mr_wp 169 2 [v0, v1, v2, v3, v4, v5, v6, v7] (.int (0) :: st) h Q) ∧
    (∀ (v0 v1 v2 v3 v4 v5 v6 v7 : Value) (a : Nat) (x : Int32) (st : List Value) (h : mr_h) (Q : Option Value → mr_h → Prop), mr_wp 169 2 [v0, v1, v2, v3, v4, v5, v6, v7] (.int x :: .ref a :: st) h Q = mr_pf (h.1 a) 11 0 (.int x) (fun c => mr_wp 169 5 [v0, v1, v2, v3, v4, v5, v6, v7] st (mr_up h a c) Q)) ∧
    (∀ (v0 v2 v3 v4 v5 v6 v7 : Value) (x : Int32) (st : List Value) (h : mr_h) (Q : Option Value → mr_h → Prop), mr_wp 169 5 [v0, .int x, v2, v3, v4, v5, v6, v7] st h Q = mr_wp 169 6 [v0, .int x, v2, v3, v4, v5, v6, v7] (.int x :: st) h Q) ∧
    (∀ (v0 v1 v2 v3 v4 v5 v6 v7 : Value) (st : List Value) (h : mr_h) (Q : Option Value → mr_h → Prop), mr_wp 169 6 [v0, v1, v2, v3, v4, v5, v6, v7] st h Q = mr_wp 169 7 [v0, v1, v2, v3, v4, v5, v6, v7] (.int (0) :: st) h Q) ∧
    (∀ (v0 v1 v2 v3 v4 v5 v6 v7 : Value) (st : List Value) (h : mr_h) (Q : Option Value → mr_h → Prop), mr_wp 169 7 [v0, v1, v2, v3, v4, v5, v6, v7] st h Q = mr_wp 169 8 [v0, v1, v2, v3, v4, v5, v6, v7] (.int (1) :: st) h Q) ∧
    (∀ (v0 v1 v2 v3 v4 v5 v6 v7 : Value) (a0 : Int32) (a1 : Int32) (a2 : Int32) (h : mr_h) (Q : Option Value → mr_h → Prop), mr_wp 169 8 [v0, v1, v2, v3, v4, v5, v6, v7] [.int a2, .int a1, .int a0] h Q = mr_run 121 [.int a0, .int a1, .int a2] h (fun v h' => mr_wp 169 11 [v0, v1, v2, v3, v4, v5, v6, v7] (v.toList ++ []) h' Q)) ∧
    (∀ (v0 v1 v2 v3 v4 v5 v6 v7 : Value) (x : Int32) (st : List Value) (h : mr_h) (Q : Option Value → mr_h → Prop), mr_wp 169 11 [v0, v1, v2, v3, v4, v5, v6, v7] (.int x :: st) h Q = if ¬ x = 0 then mr_wp 169 16 [v0, v1, v2, v3, v4, v5, v6, v7] st h Q else mr_wp 169 14 [v0, v1, v2, v3, v4, v5, v6, v7] st h Q) ∧
    (∀ (v0 v1 v2 v3 v4 v5 v6 v7 : Value) (st : List Value) (h : mr_h) (Q : Option Value → mr_h → Prop), mr_wp 169 14 [v0, v1, v2, v3, v4, v5, v6, v7] st h Q = mr_wp 169 15 [v0, v1, v2, v3, v4, v5, v6, v7] (.int (-1) :: st) h Q) ∧
    (∀ (v0 v1 v2 v3 v4 v5 v6 v7 : Value) (x : Int32) (h : mr_h) (Q : Option Value → mr_h → Prop), mr_wp 169 15 [v0, v1, v2, v3, v4, v5, v6, v7] [.int x] h Q = Q (some (.int x)) h) ∧
    (∀ (v1 v2 v3 v4 v5 v6 v7 : Value) (x : Nat) (st : List Value) (h : mr_h) (Q : Option Value → mr_h → Prop), mr_wp 169 16 [.ref x, v1, v2, v3, v4, v5, v6, v7] st h Q = mr_wp 169 17 [.ref x, v1, v2, v3, v4, v5, v6, v7] (.ref x :: st) h Q) ∧
    (∀ (v0 v1 v2 v3 v4 v5 v6 v7 : Value) (o : Nat) (h : mr_h) (Q : Option Value → mr_h → Prop), mr_wp 169 17 [v0, v1, v2, v3, v4, v5, v6, v7] [.ref o] h Q = mr_rc (h.1 o) 11 (mr_run 151 [.ref o] h (fun v h' => mr_wp 169 20 [v0, v1, v2, v3, v4, v5, v6, v7] (v.toList ++ []) h' Q))) ∧
    (∀ (v0 v2 v3 v4 v5 v6 v7 : Value) (w1 : Int32) (x : Int32) (st : List Value) (h : mr_h) (Q : Option Value → mr_h → Prop), mr_wp 169 20 [v0, .int w1, v2, v3, v4, v5, v6, v7] (.int x :: st) h Q = mr_wp 169 21 [v0, .int w1, .int x, v3, v4, v5, v6, v7] st h Q) ∧
    (∀ (v0 v1 v2 v3 v4 v5 v6 v7 : Value) (st : List Value) (h : mr_h) (Q : Option Value → mr_h → Prop), mr_wp 169 21 [v0, v1, v2, v3, v4, v5, v6, v7] st h Q = mr_wp 169 23 [v0, v1, v2, v3, v4, v5, v6, v7] (.int (-9) :: st) h Q) ∧
    (∀ (v0 v1 v3 v4 v5 v6 v7 : Value) (w2 : Int32) (x : Int32) (st : List Value) (h : mr_h) (Q : Option Value → mr_h → Prop), mr_wp 169 23 [v0, v1, .int w2, v3, v4, v5, v6, v7] (.int x :: st) h Q = mr_wp 169 24 [v0, v1, .int w2, .int x, v4, v5, v6, v7] st h Q) ∧
    (∀ (v0 v1 v2 v3 v4 v5 v6 v7 : Value) (st : List Value) (h : mr_h) (Q : Option Value → mr_h → Prop), mr_wp 169 24 [v0, v1, v2, v3, v4, v5, v6, v7] st h Q = mr_wp 169 26 [v0, v1, v2, v3, v4, v5, v6, v7] (.int (-9) :: st) h Q) ∧
    (∀ (v0 v1 v2 v4 v5 v6 v7 : Value) (w3 : Int32) (x : Int32) (st : List Value) (h : mr_h) (Q : Option Value → mr_h → Prop), mr_wp 169 26 [v0, v1, v2, .int w3, v4, v5, v6, v7] (.int x :: st) h Q = mr_wp 169 28 [v0, v1, v2, .int w3, .int x, v5, v6, v7] st h Q) ∧
    (∀ (v0 v1 v2 v3 v4 v5 v6 v7 : Value) (st : List Value) (h : mr_h) (Q : Option Value → mr_h → Prop), mr_wp 169 28 [v0, v1, v2, v3, v4, v5, v6, v7] st h Q = mr_wp 169 29 [v0, v1, v2, v3, v4, v5, v6, v7] (.int (0) :: st) h Q) ∧
    (∀ (v0 v1 v2 v3 v5 v6 v7 : Value) (w4 : Int32) (x : Int32) (st : List Value) (h : mr_h) (Q : Option Value → mr_h → Prop), mr_wp 169 29 [v0, v1, v2, v3, .int w4, v5, v6, v7] (.int x :: st) h Q = mr_wp 169 31 [v0, v1, v2, v3, .int w4, .int x, v6, v7] st h Q) ∧
    (∀ (v1 v2 v3 v4 v5 v6 v7 : Value) (x : Nat) (st : List Value) (h : mr_h) (Q : Option Value → mr_h → Prop), mr_wp 169 33 [.ref x, v1, v2, v3, v4, v5, v6, v7] st h Q = mr_wp 169 34 [.ref x, v1, v2, v3, v4, v5, v6, v7] (.ref x :: st) h Q) ∧
    (∀ (v0 v1 v2 v3 v4 v5 v6 v7 : Value) (a : Nat) (st : List Value) (h : mr_h) (Q : Option Value → mr_h → Prop), mr_wp 169 34 [v0, v1, v2, v3, v4, v5, v6, v7] (.ref a :: st) h Q = mr_gf (h.1 a) 11 8 (fun v => mr_wp 169 37 [v0, v1, v2, v3, v4, v5, v6, v7] (v :: st) h Q)) ∧
    (∀ (v0 v1 v2 v3 v4 v5 v6 v7 : Value) (x : Int32) (y : Int32) (st : List Value) (h : mr_h) (Q : Option Value → mr_h → Prop), mr_wp 169 37 [v0, v1, v2, v3, v4, v5, v6, v7] (.int y :: .int x :: st) h Q = if y ≤ x then mr_wp 169 136 [v0, v1, v2, v3, v4, v5, v6, v7] st h Q else mr_wp 169 40 [v0, v1, v2, v3, v4, v5, v6, v7] st h Q) ∧
    (∀ (v0 v1 v2 v3 v4 v5 v6 v7 : Value) (st : List Value) (h : mr_h) (Q : Option Value → mr_h → Prop), mr_wp 169 40 [v0, v1, v2, v3, v4, v5, v6, v7] st h Q = mr_wp 169 41 [v0, v1, v2, v3, v4, v5, v6, v7] (.int (0) :: st) h Q) ∧
    (∀ (v0 v1 v2 v3 v4 v6 v7 : Value) (w5 : Int32) (x : Int32) (st : List Value) (h : mr_h) (Q : Option Value → mr_h → Prop), mr_wp 169 41 [v0, v1, v2, v3, v4, .int w5, v6, v7] (.int x :: st) h Q = mr_wp 169 43 [v0, v1, v2, v3, v4, .int w5, .int x, v7] st h Q) ∧
    (∀ (v1 v2 v3 v4 v5 v6 v7 : Value) (x : Nat) (st : List Value) (h : mr_h) (Q : Option Value → mr_h → Prop), mr_wp 169 45 [.ref x, v1, v2, v3, v4, v5, v6, v7] st h Q = mr_wp 169 46 [.ref x, v1, v2, v3, v4, v5, v6, v7] (.ref x :: st) h Q) ∧
    (∀ (v0 v1 v2 v3 v4 v5 v6 v7 : Value) (a : Nat) (st : List Value) (h : mr_h) (Q : Option Value → mr_h → Prop), mr_wp 169 46 [v0, v1, v2, v3, v4, v5, v6, v7] (.ref a :: st) h Q = mr_gf (h.1 a) 11 8 (fun v => mr_wp 169 49 [v0, v1, v2, v3, v4, v5, v6, v7] (v :: st) h Q)) ∧
    (∀ (v0 v1 v2 v3 v4 v5 v6 v7 : Value) (x : Int32) (y : Int32) (st : List Value) (h : mr_h) (Q : Option Value → mr_h → Prop), mr_wp 169 49 [v0, v1, v2, v3, v4, v5, v6, v7] (.int y :: .int x :: st) h Q = if y ≤ x then mr_wp 169 130 [v0, v1, v2, v3, v4, v5, v6, v7] st h Q else mr_wp 169 52 [v0, v1, v2, v3, v4, v5, v6, v7] st h Q) ∧
    (∀ (v0 v1 v2 v3 v4 v6 v7 : Value) (x : Int32) (st : List Value) (h : mr_h) (Q : Option Value → mr_h → Prop), mr_wp 169 52 [v0, v1, v2, v3, v4, .int x, v6, v7] st h Q = mr_wp 169 54 [v0, v1, v2, v3, v4, .int x, v6, v7] (.int x :: st) h Q) ∧
    (∀ (v0 v1 v2 v3 v4 v5 v7 : Value) (x : Int32) (st : List Value) (h : mr_h) (Q : Option Value → mr_h → Prop), mr_wp 169 54 [v0, v1, v2, v3, v4, v5, .int x, v7] st h Q = mr_wp 169 56 [v0, v1, v2, v3, v4, v5, .int x, v7] (.int x :: st) h Q) ∧
    (∀ (v0 v1 v2 v3 v4 v5 v6 v7 : Value) (x : Int32) (y : Int32) (st : List Value) (h : mr_h) (Q : Option Value → mr_h → Prop), mr_wp 169 56 [v0, v1, v2, v3, v4, v5, v6, v7] (.int y :: .int x :: st) h Q = if x = y then mr_wp 169 124 [v0, v1, v2, v3, v4, v5, v6, v7] st h Q else mr_wp 169 59 [v0, v1, v2, v3, v4, v5, v6, v7] st h Q) ∧
    (∀ (v1 v2 v3 v4 v5 v6 v7 : Value) (x : Nat) (st : List Value) (h : mr_h) (Q : Option Value → mr_h → Prop), mr_wp 169 59 [.ref x, v1, v2, v3, v4, v5, v6, v7] st h Q = mr_wp 169 60 [.ref x, v1, v2, v3, v4, v5, v6, v7] (.ref x :: st) h Q) ∧
    (∀ (v0 v1 v2 v3 v4 v5 v6 v7 : Value) (a : Nat) (st : List Value) (h : mr_h) (Q : Option Value → mr_h → Prop), mr_wp 169 60 [v0, v1, v2, v3, v4, v5, v6, v7] (.ref a :: st) h Q = mr_gf (h.1 a) 11 12 (fun v => mr_wp 169 63 [v0, v1, v2, v3, v4, v5, v6, v7] (v :: st) h Q)) ∧
    (∀ (v0 v1 v2 v3 v4 v5 v6 v7 : Value) (st : List Value) (h : mr_h) (Q : Option Value → mr_h → Prop), mr_wp 169 63 [v0, v1, v2, v3, v4, v5, v6, v7] st h Q = mr_wp 169 64 [v0, v1, v2, v3, v4, v5, v6, v7] (.int (0) :: st) h Q) ∧
    (∀ (v0 v1 v2 v3 v4 v6 v7 : Value) (x : Int32) (st : List Value) (h : mr_h) (Q : Option Value → mr_h → Prop), mr_wp 169 64 [v0, v1, v2, v3, v4, .int x, v6, v7] st h Q = mr_wp 169 66 [v0, v1, v2, v3, v4, .int x, v6, v7] (.int x :: st) h Q) ∧
    (∀ (v0 v1 v2 v3 v4 v5 v6 v7 : Value) (x : Int32) (y : Int32) (st : List Value) (h : mr_h) (Q : Option Value → mr_h → Prop), mr_wp 169 66 [v0, v1, v2, v3, v4, v5, v6, v7] (.int y :: .int x :: st) h Q = mr_wp 169 67 [v0, v1, v2, v3, v4, v5, v6, v7] (.int (x + y) :: st) h Q) ∧
    (∀ (v0 v1 v2 v3 v4 v5 v6 v7 : Value) (a : Nat) (x : Int32) (st : List Value) (h : mr_h) (Q : Option Value → mr_h → Prop), mr_wp 169 67 [v0, v1, v2, v3, v4, v5, v6, v7] (.int x :: .ref a :: st) h Q = mr_ai (h.1 a) x (fun v => mr_wp 169 68 [v0, v1, v2, v3, v4, v5, v6, v7] (.int v :: st) h Q)) ∧
    (∀ (v0 v1 v2 v3 v4 v5 v7 : Value) (x : Int32) (st : List Value) (h : mr_h) (Q : Option Value → mr_h → Prop), mr_wp 169 68 [v0, v1, v2, v3, v4, v5, .int x, v7] st h Q = mr_wp 169 70 [v0, v1, v2, v3, v4, v5, .int x, v7] (.int x :: st) h Q) ∧
    (∀ (v0 v1 v2 v3 v4 v5 v6 v7 : Value) (a0 : Int32) (a1 : Int32) (h : mr_h) (Q : Option Value → mr_h → Prop), mr_wp 169 70 [v0, v1, v2, v3, v4, v5, v6, v7] [.int a1, .int a0] h Q = mr_run 130 [.int a0, .int a1] h (fun v h' => mr_wp 169 73 [v0, v1, v2, v3, v4, v5, v6, v7] (v.toList ++ []) h' Q)) ∧
    (∀ (v0 v1 v2 v3 v4 v5 v6 v7 : Value) (x : Int32) (st : List Value) (h : mr_h) (Q : Option Value → mr_h → Prop), mr_wp 169 73 [v0, v1, v2, v3, v4, v5, v6, v7] (.int x :: st) h Q = if ¬ x = 0 then mr_wp 169 124 [v0, v1, v2, v3, v4, v5, v6, v7] st h Q else mr_wp 169 76 [v0, v1, v2, v3, v4, v5, v6, v7] st h Q) ∧
    (∀ (v1 v2 v3 v4 v5 v6 v7 : Value) (x : Nat) (st : List Value) (h : mr_h) (Q : Option Value → mr_h → Prop), mr_wp 169 76 [.ref x, v1, v2, v3, v4, v5, v6, v7] st h Q = mr_wp 169 77 [.ref x, v1, v2, v3, v4, v5, v6, v7] (.ref x :: st) h Q) :=
  ⟨fun v1 v2 v3 v4 v5 v6 v7 x st h Q => gx_one (i := .aload_n 0) (len := 1) (by decide +kernel) rfl,
   fun v0 v1 v2 v3 v4 v5 v6 v7 st h Q => gx_one (i := .iconst 0) (len := 1) (by decide +kernel) rfl,
   fun v0 v1 v2 v3 v4 v5 v6 v7 a x st h Q => gx_put (x := 65) (by decide +kernel) (by decide +kernel) ⟨rfl, Or.inl rfl⟩,
   fun v0 v2 v3 v4 v5 v6 v7 x st h Q => gx_one (i := .iload_n 1) (len := 1) (by decide +kernel) rfl,
   fun v0 v1 v2 v3 v4 v5 v6 v7 st h Q => gx_one (i := .iconst 0) (len := 1) (by decide +kernel) rfl,
   fun v0 v1 v2 v3 v4 v5 v6 v7 st h Q => gx_one (i := .iconst 1) (len := 1) (by decide +kernel) rfl,
   fun v0 v1 v2 v3 v4 v5 v6 v7 a0 a1 a2 h Q => gx_stat (x := 69) (t := 121) (n := 3) (by decide +kernel) (by decide +kernel) (by decide) (by decide +kernel) rfl (Or.inl (Nat.le_of_ble_eq_true rfl)) (by show _ ≤ mr_mxl 121; rw [show mr_mxl 121 = 3 from by decide +kernel]; exact Nat.le_of_ble_eq_true rfl),
   fun v0 v1 v2 v3 v4 v5 v6 v7 x st h Q => gx_br (i := .ifCond .ne 5) (len := 3) (c := .ne) (by decide +kernel) rfl rfl,
   fun v0 v1 v2 v3 v4 v5 v6 v7 st h Q => gx_one (i := .iconst (-1)) (len := 1) (by decide +kernel) rfl,
   fun v0 v1 v2 v3 v4 v5 v6 v7 x h Q => gx_ret (i := .ireturn) (len := 1) (by decide +kernel) rfl rfl (by simp only [mr_rt, if_pos]; rw [if_pos (Or.inl (by decide +kernel))]),
   fun v1 v2 v3 v4 v5 v6 v7 x st h Q => gx_one (i := .aload_n 0) (len := 1) (by decide +kernel) rfl,
   fun v0 v1 v2 v3 v4 v5 v6 v7 o h Q => gx_virt (x := 183) (n := 0) (by decide +kernel) (by decide +kernel) rfl (Or.inl (Nat.le_of_ble_eq_true rfl)) (by show _ ≤ mr_mxl 151; rw [show mr_mxl 151 = 1 from by decide +kernel]; exact Nat.le_of_ble_eq_true rfl) (by decide +kernel),
   fun v0 v2 v3 v4 v5 v6 v7 w1 x st h Q => gx_one (i := .istore_n 2) (len := 1) (by decide +kernel) rfl,
   fun v0 v1 v2 v3 v4 v5 v6 v7 st h Q => gx_one (i := .bipush (-9)) (len := 2) (by decide +kernel) rfl,
   fun v0 v1 v3 v4 v5 v6 v7 w2 x st h Q => gx_one (i := .istore_n 3) (len := 1) (by decide +kernel) rfl,
   fun v0 v1 v2 v3 v4 v5 v6 v7 st h Q => gx_one (i := .bipush (-9)) (len := 2) (by decide +kernel) rfl,
   fun v0 v1 v2 v4 v5 v6 v7 w3 x st h Q => gx_one (i := .istore 4) (len := 2) (by decide +kernel) rfl,
   fun v0 v1 v2 v3 v4 v5 v6 v7 st h Q => gx_one (i := .iconst 0) (len := 1) (by decide +kernel) rfl,
   fun v0 v1 v2 v3 v5 v6 v7 w4 x st h Q => gx_one (i := .istore 5) (len := 2) (by decide +kernel) rfl,
   fun v1 v2 v3 v4 v5 v6 v7 x st h Q => gx_one (i := .aload_n 0) (len := 1) (by decide +kernel) rfl,
   fun v0 v1 v2 v3 v4 v5 v6 v7 a st h Q => gx_get (x := 123) (by decide +kernel) (by decide +kernel),
   fun v0 v1 v2 v3 v4 v5 v6 v7 x y st h Q => gx_br (i := .if_icmp .ge 99) (len := 3) (c := .ge) (by decide +kernel) rfl rfl,
   fun v0 v1 v2 v3 v4 v5 v6 v7 st h Q => gx_one (i := .iconst 0) (len := 1) (by decide +kernel) rfl,
   fun v0 v1 v2 v3 v4 v6 v7 w5 x st h Q => gx_one (i := .istore 6) (len := 2) (by decide +kernel) rfl,
   fun v1 v2 v3 v4 v5 v6 v7 x st h Q => gx_one (i := .aload_n 0) (len := 1) (by decide +kernel) rfl,
   fun v0 v1 v2 v3 v4 v5 v6 v7 a st h Q => gx_get (x := 123) (by decide +kernel) (by decide +kernel),
   fun v0 v1 v2 v3 v4 v5 v6 v7 x y st h Q => gx_br (i := .if_icmp .ge 81) (len := 3) (c := .ge) (by decide +kernel) rfl rfl,
   fun v0 v1 v2 v3 v4 v6 v7 x st h Q => gx_one (i := .iload 5) (len := 2) (by decide +kernel) rfl,
   fun v0 v1 v2 v3 v4 v5 v7 x st h Q => gx_one (i := .iload 6) (len := 2) (by decide +kernel) rfl,
   fun v0 v1 v2 v3 v4 v5 v6 v7 x y st h Q => gx_br (i := .if_icmp .eq 68) (len := 3) (c := .eq) (by decide +kernel) rfl rfl,
   fun v1 v2 v3 v4 v5 v6 v7 x st h Q => gx_one (i := .aload_n 0) (len := 1) (by decide +kernel) rfl,
   fun v0 v1 v2 v3 v4 v5 v6 v7 a st h Q => gx_get (x := 16) (by decide +kernel) (by decide +kernel),
   fun v0 v1 v2 v3 v4 v5 v6 v7 st h Q => gx_one (i := .iconst 0) (len := 1) (by decide +kernel) rfl,
   fun v0 v1 v2 v3 v4 v6 v7 x st h Q => gx_one (i := .iload 5) (len := 2) (by decide +kernel) rfl,
   fun v0 v1 v2 v3 v4 v5 v6 v7 x y st h Q => gx_one (i := .iadd) (len := 1) (by decide +kernel) rfl,
   fun v0 v1 v2 v3 v4 v5 v6 v7 a x st h Q => gx_iald (by decide +kernel),
   fun v0 v1 v2 v3 v4 v5 v7 x st h Q => gx_one (i := .iload 6) (len := 2) (by decide +kernel) rfl,
   fun v0 v1 v2 v3 v4 v5 v6 v7 a0 a1 h Q => gx_stat (x := 116) (t := 130) (n := 2) (by decide +kernel) (by decide +kernel) (by decide) (by decide +kernel) rfl (Or.inl (Nat.le_of_ble_eq_true rfl)) (by show _ ≤ mr_mxl 130; rw [show mr_mxl 130 = 2 from by decide +kernel]; exact Nat.le_of_ble_eq_true rfl),
   fun v0 v1 v2 v3 v4 v5 v6 v7 x st h Q => gx_br (i := .ifCond .ne 51) (len := 3) (c := .ne) (by decide +kernel) rfl rfl,
   fun v1 v2 v3 v4 v5 v6 v7 x st h Q => gx_one (i := .aload_n 0) (len := 1) (by decide +kernel) rfl⟩
theorem S_mo_best_1 : (∀ (v0 v1 v2 v3 v4 v6 v7 : Value) (x : Int32) (st : List Value) (h : mr_h) (Q : Option Value → mr_h → Prop), mr_wp 169 77 [v0, v1, v2, v3, v4, .int x, v6, v7] st h Q = mr_wp 169 79 [v0, v1, v2, v3, v4, .int x, v6, v7] (.int x :: st) h Q) ∧
    (∀ (v0 v1 v2 v3 v4 v5 v7 : Value) (x : Int32) (st : List Value) (h : mr_h) (Q : Option Value → mr_h → Prop), mr_wp 169 79 [v0, v1, v2, v3, v4, v5, .int x, v7] st h Q = mr_wp 169 81 [v0, v1, v2, v3, v4, v5, .int x, v7] (.int x :: st) h Q) ∧
    (∀ (v0 v1 v2 v3 v4 v5 v6 v7 : Value) (a0 : Int32) (a1 : Int32) (o : Nat) (h : mr_h) (Q : Option Value → mr_h → Prop), mr_wp 169 81 [v0, v1, v2, v3, v4, v5, v6, v7] [.int a1, .int a0, .ref o] h Q = mr_rc (h.1 o) 11 (mr_run 152 [.ref o, .int a0, .int a1] h (fun v h' => mr_wp 169 84 [v0, v1, v2, v3, v4, v5, v6, v7] (v.toList ++ []) h' Q))) ∧
    (∀ (v0 v1 v3 v4 v5 v6 v7 : Value) (x : Int32) (st : List Value) (h : mr_h) (Q : Option Value → mr_h → Prop), mr_wp 169 84 [v0, v1, .int x, v3, v4, v5, v6, v7] st h Q = mr_wp 169 85 [v0, v1, .int x, v3, v4, v5, v6, v7] (.int x :: st) h Q) ∧
    (∀ (v0 v1 v2 v3 v4 v5 v6 v7 : Value) (x : Int32) (y : Int32) (st : List Value) (h : mr_h) (Q : Option Value → mr_h → Prop), mr_wp 169 85 [v0, v1, v2, v3, v4, v5, v6, v7] (.int y :: .int x :: st) h Q = mr_wp 169 86 [v0, v1, v2, v3, v4, v5, v6, v7] (.int (x - y) :: st) h Q) ∧
    (∀ (v0 v1 v2 v3 v4 v5 v7 : Value) (w6 : Int32) (x : Int32) (st : List Value) (h : mr_h) (Q : Option Value → mr_h → Prop), mr_wp 169 86 [v0, v1, v2, v3, v4, v5, .int w6, v7] (.int x :: st) h Q = mr_wp 169 88 [v0, v1, v2, v3, v4, v5, .int w6, .int x] st h Q) ∧
    (∀ (v0 v1 v2 v3 v4 v5 v6 : Value) (x : Int32) (st : List Value) (h : mr_h) (Q : Option Value → mr_h → Prop), mr_wp 169 88 [v0, v1, v2, v3, v4, v5, v6, .int x] st h Q = mr_wp 169 90 [v0, v1, v2, v3, v4, v5, v6, .int x] (.int x :: st) h Q) ∧
    (∀ (v0 v1 v2 v3 v5 v6 v7 : Value) (x : Int32) (st : List Value) (h : mr_h) (Q : Option Value → mr_h → Prop), mr_wp 169 90 [v0, v1, v2, v3, .int x, v5, v6, v7] st h Q = mr_wp 169 92 [v0, v1, v2, v3, .int x, v5, v6, v7] (.int x :: st) h Q) ∧
    (∀ (v0 v1 v2 v3 v4 v5 v6 v7 : Value) (x : Int32) (y : Int32) (st : List Value) (h : mr_h) (Q : Option Value → mr_h → Prop), mr_wp 169 92 [v0, v1, v2, v3, v4, v5, v6, v7] (.int y :: .int x :: st) h Q = if x ≤ y then mr_wp 169 106 [v0, v1, v2, v3, v4, v5, v6, v7] st h Q else mr_wp 169 95 [v0, v1, v2, v3, v4, v5, v6, v7] st h Q) ∧
    (∀ (v0 v1 v2 v3 v4 v5 v6 v7 : Value) (st : List Value) (h : mr_h) (Q : Option Value → mr_h → Prop), mr_wp 169 95 [v0, v1, v2, v3, v4, v5, v6, v7] st h Q = mr_wp 169 97 [v0, v1, v2, v3, v4, v5, v6, v7] (.int (16) :: st) h Q) ∧
    (∀ (v0 v1 v2 v3 v4 v6 v7 : Value) (x : Int32) (st : List Value) (h : mr_h) (Q : Option Value → mr_h → Prop), mr_wp 169 97 [v0, v1, v2, v3, v4, .int x, v6, v7] st h Q = mr_wp 169 99 [v0, v1, v2, v3, v4, .int x, v6, v7] (.int x :: st) h Q) ∧
    (∀ (v0 v1 v2 v3 v4 v5 v6 v7 : Value) (x : Int32) (y : Int32) (st : List Value) (h : mr_h) (Q : Option Value → mr_h → Prop), mr_wp 169 99 [v0, v1, v2, v3, v4, v5, v6, v7] (.int y :: .int x :: st) h Q = mr_wp 169 100 [v0, v1, v2, v3, v4, v5, v6, v7] (.int (x * y) :: st) h Q) ∧
    (∀ (v0 v1 v2 v3 v4 v5 v7 : Value) (x : Int32) (st : List Value) (h : mr_h) (Q : Option Value → mr_h → Prop), mr_wp 169 100 [v0, v1, v2, v3, v4, v5, .int x, v7] st h Q = mr_wp 169 102 [v0, v1, v2, v3, v4, v5, .int x, v7] (.int x :: st) h Q) ∧
    (∀ (v0 v1 v2 v3 v4 v5 v6 v7 : Value) (x : Int32) (y : Int32) (st : List Value) (h : mr_h) (Q : Option Value → mr_h → Prop), mr_wp 169 102 [v0, v1, v2, v3, v4, v5, v6, v7] (.int y :: .int x :: st) h Q = mr_wp 169 103 [v0, v1, v2, v3, v4, v5, v6, v7] (.int (x + y) :: st) h Q) ∧
    (∀ (v0 v1 v2 v3 v4 v5 v6 v7 : Value) (st : List Value) (h : mr_h) (Q : Option Value → mr_h → Prop), mr_wp 169 103 [v0, v1, v2, v3, v4, v5, v6, v7] st h Q = mr_wp 169 107 [v0, v1, v2, v3, v4, v5, v6, v7] st h Q) ∧
    (∀ (v0 v1 v2 v4 v5 v6 v7 : Value) (x : Int32) (st : List Value) (h : mr_h) (Q : Option Value → mr_h → Prop), mr_wp 169 106 [v0, v1, v2, .int x, v4, v5, v6, v7] st h Q = mr_wp 169 107 [v0, v1, v2, .int x, v4, v5, v6, v7] (.int x :: st) h Q) ∧
    (∀ (v0 v1 v3 v4 v5 v6 v7 : Value) (w2 : Int32) (x : Int32) (st : List Value) (h : mr_h) (Q : Option Value → mr_h → Prop), mr_wp 169 107 [v0, v1, .int w2, v3, v4, v5, v6, v7] (.int x :: st) h Q = mr_wp 169 108 [v0, v1, .int w2, .int x, v4, v5, v6, v7] st h Q) ∧
    (∀ (v0 v1 v2 v3 v4 v5 v6 : Value) (x : Int32) (st : List Value) (h : mr_h) (Q : Option Value → mr_h → Prop), mr_wp 169 108 [v0, v1, v2, v3, v4, v5, v6, .int x] st h Q = mr_wp 169 110 [v0, v1, v2, v3, v4, v5, v6, .int x] (.int x :: st) h Q) ∧
    (∀ (v0 v1 v2 v3 v5 v6 v7 : Value) (x : Int32) (st : List Value) (h : mr_h) (Q : Option Value → mr_h → Prop), mr_wp 169 110 [v0, v1, v2, v3, .int x, v5, v6, v7] st h Q = mr_wp 169 112 [v0, v1, v2, v3, .int x, v5, v6, v7] (.int x :: st) h Q) ∧
    (∀ (v0 v1 v2 v3 v4 v5 v6 v7 : Value) (x : Int32) (y : Int32) (st : List Value) (h : mr_h) (Q : Option Value → mr_h → Prop), mr_wp 169 112 [v0, v1, v2, v3, v4, v5, v6, v7] (.int y :: .int x :: st) h Q = if x ≤ y then mr_wp 169 120 [v0, v1, v2, v3, v4, v5, v6, v7] st h Q else mr_wp 169 115 [v0, v1, v2, v3, v4, v5, v6, v7] st h Q) ∧
    (∀ (v0 v1 v2 v3 v4 v5 v6 : Value) (x : Int32) (st : List Value) (h : mr_h) (Q : Option Value → mr_h → Prop), mr_wp 169 115 [v0, v1, v2, v3, v4, v5, v6, .int x] st h Q = mr_wp 169 117 [v0, v1, v2, v3, v4, v5, v6, .int x] (.int x :: st) h Q) ∧
    (∀ (v0 v1 v2 v3 v4 v5 v6 v7 : Value) (st : List Value) (h : mr_h) (Q : Option Value → mr_h → Prop), mr_wp 169 117 [v0, v1, v2, v3, v4, v5, v6, v7] st h Q = mr_wp 169 122 [v0, v1, v2, v3, v4, v5, v6, v7] st h Q) ∧
    (∀ (v0 v1 v2 v3 v5 v6 v7 : Value) (x : Int32) (st : List Value) (h : mr_h) (Q : Option Value → mr_h → Prop), mr_wp 169 120 [v0, v1, v2, v3, .int x, v5, v6, v7] st h Q = mr_wp 169 122 [v0, v1, v2, v3, .int x, v5, v6, v7] (.int x :: st) h Q) ∧
    (∀ (v0 v1 v2 v4 v5 v6 v7 : Value) (w3 : Int32) (x : Int32) (st : List Value) (h : mr_h) (Q : Option Value → mr_h → Prop), mr_wp 169 122 [v0, v1, v2, .int w3, v4, v5, v6, v7] (.int x :: st) h Q = mr_wp 169 124 [v0, v1, v2, .int w3, .int x, v5, v6, v7] st h Q) ∧
    (∀ (v0 v1 v2 v3 v4 v7 : Value) (x : Int32) (w5 : Int32) (st : List Value) (h : mr_h) (Q : Option Value → mr_h → Prop), mr_wp 169 124 [v0, v1, v2, v3, v4, .int w5, .int x, v7] st h Q = mr_wp 169 127 [v0, v1, v2, v3, v4, .int w5, .int (x + (1)), v7] st h Q) ∧
    (∀ (v0 v1 v2 v3 v4 v5 v6 v7 : Value) (st : List Value) (h : mr_h) (Q : Option Value → mr_h → Prop), mr_wp 169 127 [v0, v1, v2, v3, v4, v5, v6, v7] st h Q = mr_wp 169 43 [v0, v1, v2, v3, v4, v5, v6, v7] st h Q) ∧
    (∀ (v0 v1 v2 v3 v6 v7 : Value) (x : Int32) (w4 : Int32) (st : List Value) (h : mr_h) (Q : Option Value → mr_h → Prop), mr_wp 169 130 [v0, v1, v2, v3, .int w4, .int x, v6, v7] st h Q = mr_wp 169 133 [v0, v1, v2, v3, .int w4, .int (x + (1)), v6, v7] st h Q) ∧
    (∀ (v0 v1 v2 v3 v4 v5 v6 v7 : Value) (st : List Value) (h : mr_h) (Q : Option Value → mr_h → Prop), mr_wp 169 133 [v0, v1, v2, v3, v4, v5, v6, v7] st h Q = mr_wp 169 31 [v0, v1, v2, v3, v4, v5, v6, v7] st h Q) ∧
    (∀ (v0 v2 v3 v4 v5 v6 v7 : Value) (x : Int32) (st : List Value) (h : mr_h) (Q : Option Value → mr_h → Prop), mr_wp 169 136 [v0, .int x, v2, v3, v4, v5, v6, v7] st h Q = mr_wp 169 137 [v0, .int x, v2, v3, v4, v5, v6, v7] (.int x :: st) h Q) ∧
    (∀ (v0 v1 v2 v3 v4 v5 v6 v7 : Value) (x : Int32) (st : List Value) (h : mr_h) (Q : Option Value → mr_h → Prop), mr_wp 169 137 [v0, v1, v2, v3, v4, v5, v6, v7] (.int x :: st) h Q = if ¬ x = 0 then mr_wp 169 144 [v0, v1, v2, v3, v4, v5, v6, v7] st h Q else mr_wp 169 140 [v0, v1, v2, v3, v4, v5, v6, v7] st h Q) ∧
    (∀ (v0 v1 v2 v4 v5 v6 v7 : Value) (x : Int32) (st : List Value) (h : mr_h) (Q : Option Value → mr_h → Prop), mr_wp 169 140 [v0, v1, v2, .int x, v4, v5, v6, v7] st h Q = mr_wp 169 141 [v0, v1, v2, .int x, v4, v5, v6, v7] (.int x :: st) h Q) ∧
    (∀ (v0 v1 v2 v3 v4 v5 v6 v7 : Value) (st : List Value) (h : mr_h) (Q : Option Value → mr_h → Prop), mr_wp 169 141 [v0, v1, v2, v3, v4, v5, v6, v7] st h Q = mr_wp 169 146 [v0, v1, v2, v3, v4, v5, v6, v7] st h Q) ∧
    (∀ (v0 v1 v2 v3 v5 v6 v7 : Value) (x : Int32) (st : List Value) (h : mr_h) (Q : Option Value → mr_h → Prop), mr_wp 169 144 [v0, v1, v2, v3, .int x, v5, v6, v7] st h Q = mr_wp 169 146 [v0, v1, v2, v3, .int x, v5, v6, v7] (.int x :: st) h Q) ∧
    (∀ (v0 v1 v2 v3 v4 v5 v6 v7 : Value) (x : Int32) (h : mr_h) (Q : Option Value → mr_h → Prop), mr_wp 169 146 [v0, v1, v2, v3, v4, v5, v6, v7] [.int x] h Q = Q (some (.int x)) h) :=
  ⟨fun v0 v1 v2 v3 v4 v6 v7 x st h Q => gx_one (i := .iload 5) (len := 2) (by decide +kernel) rfl,
   fun v0 v1 v2 v3 v4 v5 v7 x st h Q => gx_one (i := .iload 6) (len := 2) (by decide +kernel) rfl,
   fun v0 v1 v2 v3 v4 v5 v6 v7 a0 a1 o h Q => gx_virt (x := 186) (n := 2) (by decide +kernel) (by decide +kernel) rfl (Or.inl (Nat.le_of_ble_eq_true rfl)) (by show _ ≤ mr_mxl 152; rw [show mr_mxl 152 = 3 from by decide +kernel]; exact Nat.le_of_ble_eq_true rfl) (by decide +kernel),
   fun v0 v1 v3 v4 v5 v6 v7 x st h Q => gx_one (i := .iload_n 2) (len := 1) (by decide +kernel) rfl,
   fun v0 v1 v2 v3 v4 v5 v6 v7 x y st h Q => gx_one (i := .isub) (len := 1) (by decide +kernel) rfl,
   fun v0 v1 v2 v3 v4 v5 v7 w6 x st h Q => gx_one (i := .istore 7) (len := 2) (by decide +kernel) rfl,
   fun v0 v1 v2 v3 v4 v5 v6 x st h Q => gx_one (i := .iload 7) (len := 2) (by decide +kernel) rfl,
   fun v0 v1 v2 v3 v5 v6 v7 x st h Q => gx_one (i := .iload 4) (len := 2) (by decide +kernel) rfl,
   fun v0 v1 v2 v3 v4 v5 v6 v7 x y st h Q => gx_br (i := .if_icmp .le 14) (len := 3) (c := .le) (by decide +kernel) rfl rfl,
   fun v0 v1 v2 v3 v4 v5 v6 v7 st h Q => gx_one (i := .bipush 16) (len := 2) (by decide +kernel) rfl,
   fun v0 v1 v2 v3 v4 v6 v7 x st h Q => gx_one (i := .iload 5) (len := 2) (by decide +kernel) rfl,
   fun v0 v1 v2 v3 v4 v5 v6 v7 x y st h Q => gx_one (i := .imul) (len := 1) (by decide +kernel) rfl,
   fun v0 v1 v2 v3 v4 v5 v7 x st h Q => gx_one (i := .iload 6) (len := 2) (by decide +kernel) rfl,
   fun v0 v1 v2 v3 v4 v5 v6 v7 x y st h Q => gx_one (i := .iadd) (len := 1) (by decide +kernel) rfl,
   fun v0 v1 v2 v3 v4 v5 v6 v7 st h Q => gx_one (i := .goto 4) (len := 3) (by decide +kernel) rfl,
   fun v0 v1 v2 v4 v5 v6 v7 x st h Q => gx_one (i := .iload_n 3) (len := 1) (by decide +kernel) rfl,
   fun v0 v1 v3 v4 v5 v6 v7 w2 x st h Q => gx_one (i := .istore_n 3) (len := 1) (by decide +kernel) rfl,
   fun v0 v1 v2 v3 v4 v5 v6 x st h Q => gx_one (i := .iload 7) (len := 2) (by decide +kernel) rfl,
   fun v0 v1 v2 v3 v5 v6 v7 x st h Q => gx_one (i := .iload 4) (len := 2) (by decide +kernel) rfl,
   fun v0 v1 v2 v3 v4 v5 v6 v7 x y st h Q => gx_br (i := .if_icmp .le 8) (len := 3) (c := .le) (by decide +kernel) rfl rfl,
   fun v0 v1 v2 v3 v4 v5 v6 x st h Q => gx_one (i := .iload 7) (len := 2) (by decide +kernel) rfl,
   fun v0 v1 v2 v3 v4 v5 v6 v7 st h Q => gx_one (i := .goto 5) (len := 3) (by decide +kernel) rfl,
   fun v0 v1 v2 v3 v5 v6 v7 x st h Q => gx_one (i := .iload 4) (len := 2) (by decide +kernel) rfl,
   fun v0 v1 v2 v4 v5 v6 v7 w3 x st h Q => gx_one (i := .istore 4) (len := 2) (by decide +kernel) rfl,
   fun v0 v1 v2 v3 v4 v7 x w5 st h Q => gx_one (i := .iinc 6 1) (len := 3) (by decide +kernel) rfl,
   fun v0 v1 v2 v3 v4 v5 v6 v7 st h Q => gx_one (i := .goto (-84)) (len := 3) (by decide +kernel) rfl,
   fun v0 v1 v2 v3 v6 v7 x w4 st h Q => gx_one (i := .iinc 5 1) (len := 3) (by decide +kernel) rfl,
   fun v0 v1 v2 v3 v4 v5 v6 v7 st h Q => gx_one (i := .goto (-102)) (len := 3) (by decide +kernel) rfl,
   fun v0 v2 v3 v4 v5 v6 v7 x st h Q => gx_one (i := .iload_n 1) (len := 1) (by decide +kernel) rfl,
   fun v0 v1 v2 v3 v4 v5 v6 v7 x st h Q => gx_br (i := .ifCond .ne 7) (len := 3) (c := .ne) (by decide +kernel) rfl rfl,
   fun v0 v1 v2 v4 v5 v6 v7 x st h Q => gx_one (i := .iload_n 3) (len := 1) (by decide +kernel) rfl,
   fun v0 v1 v2 v3 v4 v5 v6 v7 st h Q => gx_one (i := .goto 5) (len := 3) (by decide +kernel) rfl,
   fun v0 v1 v2 v3 v5 v6 v7 x st h Q => gx_one (i := .iload 4) (len := 2) (by decide +kernel) rfl,
   fun v0 v1 v2 v3 v4 v5 v6 v7 x h Q => gx_ret (i := .ireturn) (len := 1) (by decide +kernel) rfl rfl (by simp only [mr_rt, if_pos]; rw [if_pos (Or.inl (by decide +kernel))])⟩

theorem s_mo_odds_72 (v0 v1 v2 v3 v4 v5 v6 v7 v8 v9 v11 v12 v13 v14 v15 v16 : Value) (x : Int32) (st : List Value) (h : mr_h) (Q : Option Value → mr_h → Prop) : mr_wp 170 72 [v0, v1, v2, v3, v4, v5, v6, v7, v8, v9, .int x, v11, v12, v13, v14, v15, v16] st h Q = mr_wp 170 74 [v0, v1, v2, v3, v4, v5, v6, v7, v8, v9, .int x, v11, v12, v13, v14, v15, v16] (.int x :: st) h Q := gx_one (i := .iload 10) (len := 2) (by decide +kernel) rfl
theorem s_mo_odds_96 (v0 v1 v2 v3 v4 v5 v6 v7 v8 v9 v11 v12 v13 v14 v15 v16 : Value) (x : Int32) (st : List Value) (h : mr_h) (Q : Option Value → mr_h → Prop) : mr_wp 170 96 [v0, v1, v2, v3, v4, v5, v6, v7, v8, v9, .int x, v11, v12, v13, v14, v15, v16] st h Q = mr_wp 170 98 [v0, v1, v2, v3, v4, v5, v6, v7, v8, v9, .int x, v11, v12, v13, v14, v15, v16] (.int x :: st) h Q := gx_one (i := .iload 10) (len := 2) (by decide +kernel) rfl
theorem s_mo_odds_118 (v0 v1 v2 v3 v4 v5 v6 v7 v8 v9 v10 v11 v12 v13 v15 v16 : Value) (x : Int32) (st : List Value) (h : mr_h) (Q : Option Value → mr_h → Prop) : mr_wp 170 118 [v0, v1, v2, v3, v4, v5, v6, v7, v8, v9, v10, v11, v12, v13, .int x, v15, v16] st h Q = mr_wp 170 120 [v0, v1, v2, v3, v4, v5, v6, v7, v8, v9, v10, v11, v12, v13, .int x, v15, v16] (.int x :: st) h Q := gx_one (i := .iload 14) (len := 2) (by decide +kernel) rfl
theorem s_mo_odds_130 (v0 v1 v2 v3 v4 v5 v6 v7 v8 v9 v10 v11 v12 v13 v14 v16 : Value) (x : Int32) (st : List Value) (h : mr_h) (Q : Option Value → mr_h → Prop) : mr_wp 170 130 [v0, v1, v2, v3, v4, v5, v6, v7, v8, v9, v10, v11, v12, v13, v14, .int x, v16] st h Q = mr_wp 170 132 [v0, v1, v2, v3, v4, v5, v6, v7, v8, v9, v10, v11, v12, v13, v14, .int x, v16] (.int x :: st) h Q := gx_one (i := .iload 15) (len := 2) (by decide +kernel) rfl
theorem S_mo_odds_0 : (∀ (v1 v2 v3 v4 v5 v6 v7 v8 v9 v10 v11 v12 v13 v14 v15 v16 : Value) (x : Nat) (st : List Value) (h : mr_h) (Q : Option Value → mr_h → Prop), mr_wp 170 0 [.ref x, v1, v2, v3, v4, v5, v6, v7, v8, v9, v10, v11, v12, v13, v14, v15, v16] st h Q = mr_wp 170 1 [.ref x, v1, v2, v3, v4, v5, v6, v7, v8, v9, v10, v11, v12, v13, v14, v15, v16] (.ref x :: st) h Q) ∧
    (∀ (v0 v1 v2 v3 v4 v5 v6 v7 v8 v9 v10 v11 v12 v13 v14 v15 v16 : Value) (st : List Value) (h : mr_h) (Q : Option Value → mr_h → Prop), mr_wp 170 1 [v0, v1, v2, v3, v4, v5, v6, v7, v8, v9, v10, v11, v12, v13, v14, v15, v16] st h Q = mr_wp 170 2 [v0, v1, v2, v3, v4, v5, v6, v7, v8, v9, v10, v11, v12, v13, v14, v15, v16] (.int (0) :: st) h Q) ∧
    (∀ (v0 v1 v2 v3 v4 v5 v6 v7 v8 v9 v10 v11 v12 v13 v14 v15 v16 : Value) (a : Nat) (x : Int32) (st : List Value) (h : mr_h) (Q : Option Value → mr_h → Prop), mr_wp 170 2 [v0, v1, v2, v3, v4, v5, v6, v7, v8, v9, v10, v11, v12, v13, v14, v15, v16] (.int x :: .ref a :: st) h Q = mr_pf (h.1 a) 11 0 (.int x) (fun c => mr_wp 170 5 [v0, v1, v2, v3, v4, v5, v6, v7, v8, v9, v10, v11, v12, v13, v14, v15, v16] st (mr_up h a c) Q)) ∧
    (∀ (v0 v2 v3 v4 v5 v6 v7 v8 v9 v10 v11 v12 v13 v14 v15 v16 : Value) (x : Int32) (st : List Value) (h : mr_h) (Q : Option Value → mr_h → Prop), mr_wp 170 5 [v0, .int x, v2, v3, v4, v5, v6, v7, v8, v9, v10, v11, v12, v13, v14, v15, v16] st h Q = mr_wp 170 6 [v0, .int x, v2, v3, v4, v5, v6, v7, v8, v9, v10, v11, v12, v13, v14, v15, v16] (.int x :: st) h Q) ∧
    (∀ (v0 v1 v2 v3 v4 v5 v6 v7 v8 v9 v10 v11 v12 v13 v14 v15 v16 : Value) (st : List Value) (h : mr_h) (Q : Option Value → mr_h → Prop), mr_wp 170 6 [v0, v1, v2, v3, v4, v5, v6, v7, v8, v9, v10, v11, v12, v13, v14, v15, v16] st h Q = mr_wp 170 7 [v0, v1, v2, v3, v4, v5, v6, v7, v8, v9, v10, v11, v12, v13, v14, v15, v16] (.int (0) :: st) h Q) ∧
    (∀ (v0 v1 v2 v3 v4 v5 v6 v7 v8 v9 v10 v11 v12 v13 v14 v15 v16 : Value) (st : List Value) (h : mr_h) (Q : Option Value → mr_h → Prop), mr_wp 170 7 [v0, v1, v2, v3, v4, v5, v6, v7, v8, v9, v10, v11, v12, v13, v14, v15, v16] st h Q = mr_wp 170 9 [v0, v1, v2, v3, v4, v5, v6, v7, v8, v9, v10, v11, v12, v13, v14, v15, v16] (.int (10) :: st) h Q) ∧
    (∀ (v0 v1 v2 v3 v4 v5 v6 v7 v8 v9 v10 v11 v12 v13 v14 v15 v16 : Value) (a0 : Int32) (a1 : Int32) (a2 : Int32) (h : mr_h) (Q : Option Value → mr_h → Prop), mr_wp 170 9 [v0, v1, v2, v3, v4, v5, v6, v7, v8, v9, v10, v11, v12, v13, v14, v15, v16] [.int a2, .int a1, .int a0] h Q = mr_run 121 [.int a0, .int a1, .int a2] h (fun v h' => mr_wp 170 12 [v0, v1, v2, v3, v4, v5, v6, v7, v8, v9, v10, v11, v12, v13, v14, v15, v16] (v.toList ++ []) h' Q)) ∧
    (∀ (v0 v1 v2 v3 v4 v5 v6 v7 v8 v9 v10 v11 v12 v13 v14 v15 v16 : Value) (x : Int32) (st : List Value) (h : mr_h) (Q : Option Value → mr_h → Prop), mr_wp 170 12 [v0, v1, v2, v3, v4, v5, v6, v7, v8, v9, v10, v11, v12, v13, v14, v15, v16] (.int x :: st) h Q = if x = 0 then mr_wp 170 41 [v0, v1, v2, v3, v4, v5, v6, v7, v8, v9, v10, v11, v12, v13, v14, v15, v16] st h Q else mr_wp 170 15 [v0, v1, v2, v3, v4, v5, v6, v7, v8, v9, v10, v11, v12, v13, v14, v15, v16] st h Q) ∧
    (∀ (v1 v2 v3 v4 v5 v6 v7 v8 v9 v10 v11 v12 v13 v14 v15 v16 : Value) (x : Nat) (st : List Value) (h : mr_h) (Q : Option Value → mr_h → Prop), mr_wp 170 15 [.ref x, v1, v2, v3, v4, v5, v6, v7, v8, v9, v10, v11, v12, v13, v14, v15, v16] st h Q = mr_wp 170 16 [.ref x, v1, v2, v3, v4, v5, v6, v7, v8, v9, v10, v11, v12, v13, v14, v15, v16] (.ref x :: st) h Q) ∧
    (∀ (v0 v1 v3 v4 v5 v6 v7 v8 v9 v10 v11 v12 v13 v14 v15 v16 : Value) (x : Int32) (st : List Value) (h : mr_h) (Q : Option Value → mr_h → Prop), mr_wp 170 16 [v0, v1, .int x, v3, v4, v5, v6, v7, v8, v9, v10, v11, v12, v13, v14, v15, v16] st h Q = mr_wp 170 17 [v0, v1, .int x, v3, v4, v5, v6, v7, v8, v9, v10, v11, v12, v13, v14, v15, v16] (.int x :: st) h Q) ∧
    (∀ (v0 v1 v2 v3 v4 v5 v6 v7 v8 v9 v10 v11 v12 v13 v14 v15 v16 : Value) (a0 : Int32) (o : Nat) (h : mr_h) (Q : Option Value → mr_h → Prop), mr_wp 170 17 [v0, v1, v2, v3, v4, v5, v6, v7, v8, v9, v10, v11, v12, v13, v14, v15, v16] [.int a0, .ref o] h Q = mr_rc (h.1 o) 11 (mr_run 132 [.ref o, .int a0] h (fun v h' => mr_wp 170 20 [v0, v1, v2, v3, v4, v5, v6, v7, v8, v9, v10, v11, v12, v13, v14, v15, v16] (v.toList ++ []) h' Q))) ∧
    (∀ (v0 v1 v2 v3 v4 v5 v6 v7 v8 v9 v10 v11 v12 v13 v14 v15 v16 : Value) (x : Int32) (st : List Value) (h : mr_h) (Q : Option Value → mr_h → Prop), mr_wp 170 20 [v0, v1, v2, v3, v4, v5, v6, v7, v8, v9, v10, v11, v12, v13, v14, v15, v16] (.int x :: st) h Q = if x = 0 then mr_wp 170 41 [v0, v1, v2, v3, v4, v5, v6, v7, v8, v9, v10, v11, v12, v13, v14, v15, v16] st h Q else mr_wp 170 23 [v0, v1, v2, v3, v4, v5, v6, v7, v8, v9, v10, v11, v12, v13, v14, v15, v16] st h Q) ∧
    (∀ (v1 v2 v3 v4 v5 v6 v7 v8 v9 v10 v11 v12 v13 v14 v15 v16 : Value) (x : Nat) (st : List Value) (h : mr_h) (Q : Option Value → mr_h → Prop), mr_wp 170 23 [.ref x, v1, v2, v3, v4, v5, v6, v7, v8, v9, v10, v11, v12, v13, v14, v15, v16] st h Q = mr_wp 170 24 [.ref x, v1, v2, v3, v4, v5, v6, v7, v8, v9, v10, v11, v12, v13, v14, v15, v16] (.ref x :: st) h Q) ∧
    (∀ (v0 v1 v2 v4 v5 v6 v7 v8 v9 v10 v11 v12 v13 v14 v15 v16 : Value) (x : Int32) (st : List Value) (h : mr_h) (Q : Option Value → mr_h → Prop), mr_wp 170 24 [v0, v1, v2, .int x, v4, v5, v6, v7, v8, v9, v10, v11, v12, v13, v14, v15, v16] st h Q = mr_wp 170 25 [v0, v1, v2, .int x, v4, v5, v6, v7, v8, v9, v10, v11, v12, v13, v14, v15, v16] (.int x :: st) h Q) ∧
    (∀ (v0 v1 v2 v3 v4 v5 v6 v7 v8 v9 v10 v11 v12 v13 v14 v15 v16 : Value) (a0 : Int32) (o : Nat) (h : mr_h) (Q : Option Value → mr_h → Prop), mr_wp 170 25 [v0, v1, v2, v3, v4, v5, v6, v7, v8, v9, v10, v11, v12, v13, v14, v15, v16] [.int a0, .ref o] h Q = mr_rc (h.1 o) 11 (mr_run 132 [.ref o, .int a0] h (fun v h' => mr_wp 170 28 [v0, v1, v2, v3, v4, v5, v6, v7, v8, v9, v10, v11, v12, v13, v14, v15, v16] (v.toList ++ []) h' Q))) ∧
    (∀ (v0 v1 v2 v3 v4 v5 v6 v7 v8 v9 v10 v11 v12 v13 v14 v15 v16 : Value) (x : Int32) (st : List Value) (h : mr_h) (Q : Option Value → mr_h → Prop), mr_wp 170 28 [v0, v1, v2, v3, v4, v5, v6, v7, v8, v9, v10, v11, v12, v13, v14, v15, v16] (.int x :: st) h Q = if x = 0 then mr_wp 170 41 [v0, v1, v2, v3, v4, v5, v6, v7, v8, v9, v10, v11, v12, v13, v14, v15, v16] st h Q else mr_wp 170 31 [v0, v1, v2, v3, v4, v5, v6, v7, v8, v9, v10, v11, v12, v13, v14, v15, v16] st h Q) ∧
    (∀ (v0 v1 v2 v3 v5 v6 v7 v8 v9 v10 v11 v12 v13 v14 v15 v16 : Value) (x : Int32) (st : List Value) (h : mr_h) (Q : Option Value → mr_h → Prop), mr_wp 170 31 [v0, v1, v2, v3, .int x, v5, v6, v7, v8, v9, v10, v11, v12, v13, v14, v15, v16] st h Q = mr_wp 170 33 [v0, v1, v2, v3, .int x, v5, v6, v7, v8, v9, v10, v11, v12, v13, v14, v15, v16] (.int x :: st) h Q) ∧
    (∀ (v0 v1 v2 v3 v4 v5 v6 v7 v8 v9 v10 v11 v12 v13 v14 v15 v16 : Value) (st : List Value) (h : mr_h) (Q : Option Value → mr_h → Prop), mr_wp 170 33 [v0, v1, v2, v3, v4, v5, v6, v7, v8, v9, v10, v11, v12, v13, v14, v15, v16] st h Q = mr_wp 170 34 [v0, v1, v2, v3, v4, v5, v6, v7, v8, v9, v10, v11, v12, v13, v14, v15, v16] (.int (0) :: st) h Q) ∧
    (∀ (v0 v1 v2 v3 v4 v5 v6 v7 v8 v9 v10 v11 v12 v13 v14 v15 v16 : Value) (st : List Value) (h : mr_h) (Q : Option Value → mr_h → Prop), mr_wp 170 34 [v0, v1, v2, v3, v4, v5, v6, v7, v8, v9, v10, v11, v12, v13, v14, v15, v16] st h Q = mr_wp 170 35 [v0, v1, v2, v3, v4, v5, v6, v7, v8, v9, v10, v11, v12, v13, v14, v15, v16] (.int (1) :: st) h Q) ∧
    (∀ (v0 v1 v2 v3 v4 v5 v6 v7 v8 v9 v10 v11 v12 v13 v14 v15 v16 : Value) (a0 : Int32) (a1 : Int32) (a2 : Int32) (h : mr_h) (Q : Option Value → mr_h → Prop), mr_wp 170 35 [v0, v1, v2, v3, v4, v5, v6, v7, v8, v9, v10, v11, v12, v13, v14, v15, v16] [.int a2, .int a1, .int a0] h Q = mr_run 121 [.int a0, .int a1, .int a2] h (fun v h' => mr_wp 170 38 [v0, v1, v2, v3, v4, v5, v6, v7, v8, v9, v10, v11, v12, v13, v14, v15, v16] (v.toList ++ []) h' Q)) ∧
    (∀ (v0 v1 v2 v3 v4 v5 v6 v7 v8 v9 v10 v11 v12 v13 v14 v15 v16 : Value) (x : Int32) (st : List Value) (h : mr_h) (Q : Option Value → mr_h → Prop), mr_wp 170 38 [v0, v1, v2, v3, v4, v5, v6, v7, v8, v9, v10, v11, v12, v13, v14, v15, v16] (.int x :: st) h Q = if ¬ x = 0 then mr_wp 170 43 [v0, v1, v2, v3, v4, v5, v6, v7, v8, v9, v10, v11, v12, v13, v14, v15, v16] st h Q else mr_wp 170 41 [v0, v1, v2, v3, v4, v5, v6, v7, v8, v9, v10, v11, v12, v13, v14, v15, v16] st h Q) ∧
    (∀ (v0 v1 v2 v3 v4 v5 v6 v7 v8 v9 v10 v11 v12 v13 v14 v15 v16 : Value) (st : List Value) (h : mr_h) (Q : Option Value → mr_h → Prop), mr_wp 170 41 [v0, v1, v2, v3, v4, v5, v6, v7, v8, v9, v10, v11, v12, v13, v14, v15, v16] st h Q = mr_wp 170 42 [v0, v1, v2, v3, v4, v5, v6, v7, v8, v9, v10, v11, v12, v13, v14, v15, v16] (.int (-1) :: st) h Q) ∧
    (∀ (v0 v1 v2 v3 v4 v5 v6 v7 v8 v9 v10 v11 v12 v13 v14 v15 v16 : Value) (x : Int32) (h : mr_h) (Q : Option Value → mr_h → Prop), mr_wp 170 42 [v0, v1, v2, v3, v4, v5, v6, v7, v8, v9, v10, v11, v12, v13, v14, v15, v16] [.int x] h Q = Q (some (.int x)) h) ∧
    (∀ (v1 v2 v3 v4 v5 v6 v7 v8 v9 v10 v11 v12 v13 v14 v15 v16 : Value) (x : Nat) (st : List Value) (h : mr_h) (Q : Option Value → mr_h → Prop), mr_wp 170 43 [.ref x, v1, v2, v3, v4, v5, v6, v7, v8, v9, v10, v11, v12, v13, v14, v15, v16] st h Q = mr_wp 170 44 [.ref x, v1, v2, v3, v4, v5, v6, v7, v8, v9, v10, v11, v12, v13, v14, v15, v16] (.ref x :: st) h Q) ∧
    (∀ (v1 v2 v3 v4 v5 v6 v7 v8 v9 v10 v11 v12 v13 v14 v15 v16 : Value) (x : Nat) (st : List Value) (h : mr_h) (Q : Option Value → mr_h → Prop), mr_wp 170 44 [.ref x, v1, v2, v3, v4, v5, v6, v7, v8, v9, v10, v11, v12, v13, v14, v15, v16] st h Q = mr_wp 170 45 [.ref x, v1, v2, v3, v4, v5, v6, v7, v8, v9, v10, v11, v12, v13, v14, v15, v16] (.ref x :: st) h Q) ∧
    (∀ (v0 v1 v2 v3 v4 v5 v6 v7 v8 v9 v10 v11 v12 v13 v14 v15 v16 : Value) (a : Nat) (st : List Value) (h : mr_h) (Q : Option Value → mr_h → Prop), mr_wp 170 45 [v0, v1, v2, v3, v4, v5, v6, v7, v8, v9, v10, v11, v12, v13, v14, v15, v16] (.ref a :: st) h Q = mr_gf (h.1 a) 11 12 (fun v => mr_wp 170 48 [v0, v1, v2, v3, v4, v5, v6, v7, v8, v9, v10, v11, v12, v13, v14, v15, v16] (v :: st) h Q)) ∧
    (∀ (v0 v1 v2 v3 v4 v5 v6 v7 v8 v9 v10 v11 v12 v13 v14 v15 v16 : Value) (a0 : Nat) (o : Nat) (h : mr_h) (Q : Option Value → mr_h → Prop), mr_wp 170 48 [v0, v1, v2, v3, v4, v5, v6, v7, v8, v9, v10, v11, v12, v13, v14, v15, v16] [.ref a0, .ref o] h Q = mr_rc (h.1 o) 11 (mr_run 146 [.ref o, .ref a0] h (fun v h' => mr_wp 170 51 [v0, v1, v2, v3, v4, v5, v6, v7, v8, v9, v10, v11, v12, v13, v14, v15, v16] (v.toList ++ []) h' Q))) ∧
    (∀ (v0 v1 v2 v3 v5 v6 v7 v8 v9 v10 v11 v12 v13 v14 v15 v16 : Value) (w4 : Int32) (x : Int32) (st : List Value) (h : mr_h) (Q : Option Value → mr_h → Prop), mr_wp 170 51 [v0, v1, v2, v3, .int w4, v5, v6, v7, v8, v9, v10, v11, v12, v13, v14, v15, v16] (.int x :: st) h Q = mr_wp 170 53 [v0, v1, v2, v3, .int w4, .int x, v6, v7, v8, v9, v10, v11, v12, v13, v14, v15, v16] st h Q) ∧
    (∀ (v0 v1 v2 v3 v4 v6 v7 v8 v9 v10 v11 v12 v13 v14 v15 v16 : Value) (x : Int32) (st : List Value) (h : mr_h) (Q : Option Value → mr_h → Prop), mr_wp 170 53 [v0, v1, v2, v3, v4, .int x, v6, v7, v8, v9, v10, v11, v12, v13, v14, v15, v16] st h Q = mr_wp 170 55 [v0, v1, v2, v3, v4, .int x, v6, v7, v8, v9, v10, v11, v12, v13, v14, v15, v16] (.int x :: st) h Q) ∧
    (∀ (v0 v1 v2 v3 v4 v5 v6 v7 v8 v9 v10 v11 v12 v13 v14 v15 v16 : Value) (st : List Value) (h : mr_h) (Q : Option Value → mr_h → Prop), mr_wp 170 55 [v0, v1, v2, v3, v4, v5, v6, v7, v8, v9, v10, v11, v12, v13, v14, v15, v16] st h Q = mr_wp 170 57 [v0, v1, v2, v3, v4, v5, v6, v7, v8, v9, v10, v11, v12, v13, v14, v15, v16] (.int (9) :: st) h Q) ∧
    (∀ (v0 v1 v2 v3 v4 v5 v6 v7 v8 v9 v10 v11 v12 v13 v14 v15 v16 : Value) (x : Int32) (y : Int32) (st : List Value) (h : mr_h) (Q : Option Value → mr_h → Prop), mr_wp 170 57 [v0, v1, v2, v3, v4, v5, v6, v7, v8, v9, v10, v11, v12, v13, v14, v15, v16] (.int y :: .int x :: st) h Q = if x ≤ y then mr_wp 170 63 [v0, v1, v2, v3, v4, v5, v6, v7, v8, v9, v10, v11, v12, v13, v14, v15, v16] st h Q else mr_wp 170 60 [v0, v1, v2, v3, v4, v5, v6, v7, v8, v9, v10, v11, v12, v13, v14, v15, v16] st h Q) ∧
    (∀ (v0 v1 v2 v3 v4 v5 v6 v7 v8 v9 v10 v11 v12 v13 v14 v15 v16 : Value) (st : List Value) (h : mr_h) (Q : Option Value → mr_h → Prop), mr_wp 170 60 [v0, v1, v2, v3, v4, v5, v6, v7, v8, v9, v10, v11, v12, v13, v14, v15, v16] st h Q = mr_wp 170 62 [v0, v1, v2, v3, v4, v5, v6, v7, v8, v9, v10, v11, v12, v13, v14, v15, v16] (.int (-2) :: st) h Q) ∧
    (∀ (v0 v1 v2 v3 v4 v5 v6 v7 v8 v9 v10 v11 v12 v13 v14 v15 v16 : Value) (x : Int32) (h : mr_h) (Q : Option Value → mr_h → Prop), mr_wp 170 62 [v0, v1, v2, v3, v4, v5, v6, v7, v8, v9, v10, v11, v12, v13, v14, v15, v16] [.int x] h Q = Q (some (.int x)) h) ∧
    (∀ (v0 v1 v2 v3 v4 v5 v6 v7 v8 v9 v10 v11 v12 v13 v14 v15 v16 : Value) (st : List Value) (h : mr_h) (Q : Option Value → mr_h → Prop), mr_wp 170 63 [v0, v1, v2, v3, v4, v5, v6, v7, v8, v9, v10, v11, v12, v13, v14, v15, v16] st h Q = mr_wp 170 64 [v0, v1, v2, v3, v4, v5, v6, v7, v8, v9, v10, v11, v12, v13, v14, v15, v16] (.long (0) :: st) h Q) ∧
    (∀ (v0 v1 v2 v3 v4 v6 v7 v8 v9 v10 v11 v12 v13 v14 v15 v16 : Value) (w5 : Int32) (x : Int64) (st : List Value) (h : mr_h) (Q : Option Value → mr_h → Prop), mr_wp 170 64 [v0, v1, v2, v3, v4, .int w5, v6, v7, v8, v9, v10, v11, v12, v13, v14, v15, v16] (.long x :: st) h Q = mr_wp 170 66 [v0, v1, v2, v3, v4, .int w5, .long x, .null, v8, v9, v10, v11, v12, v13, v14, v15, v16] st h Q) ∧
    (∀ (v0 v1 v2 v3 v4 v5 v6 v7 v8 v9 v10 v11 v12 v13 v14 v15 v16 : Value) (st : List Value) (h : mr_h) (Q : Option Value → mr_h → Prop), mr_wp 170 66 [v0, v1, v2, v3, v4, v5, v6, v7, v8, v9, v10, v11, v12, v13, v14, v15, v16] st h Q = mr_wp 170 67 [v0, v1, v2, v3, v4, v5, v6, v7, v8, v9, v10, v11, v12, v13, v14, v15, v16] (.long (1) :: st) h Q) ∧
    (∀ (v0 v1 v2 v3 v4 v5 v6 v8 v9 v10 v11 v12 v13 v14 v15 v16 : Value) (x : Int64) (st : List Value) (h : mr_h) (Q : Option Value → mr_h → Prop), mr_wp 170 67 [v0, v1, v2, v3, v4, v5, v6, .null, v8, v9, v10, v11, v12, v13, v14, v15, v16] (.long x :: st) h Q = mr_wp 170 69 [v0, v1, v2, v3, v4, v5, v6, .null, .long x, .null, v10, v11, v12, v13, v14, v15, v16] st h Q) ∧
    (∀ (v0 v1 v2 v3 v4 v5 v6 v7 v8 v9 v10 v11 v12 v13 v14 v15 v16 : Value) (st : List Value) (h : mr_h) (Q : Option Value → mr_h → Prop), mr_wp 170 69 [v0, v1, v2, v3, v4, v5, v6, v7, v8, v9, v10, v11, v12, v13, v14, v15, v16] st h Q = mr_wp 170 70 [v0, v1, v2, v3, v4, v5, v6, v7, v8, v9, v10, v11, v12, v13, v14, v15, v16] (.int (0) :: st) h Q) ∧
    (∀ (v0 v1 v2 v3 v4 v5 v6 v7 v8 v10 v11 v12 v13 v14 v15 v16 : Value) (x : Int32) (st : List Value) (h : mr_h) (Q : Option Value → mr_h → Prop), mr_wp 170 70 [v0, v1, v2, v3, v4, v5, v6, v7, v8, .null, v10, v11, v12, v13, v14, v15, v16] (.int x :: st) h Q = mr_wp 170 72 [v0, v1, v2, v3, v4, v5, v6, v7, v8, .null, .int x, v11, v12, v13, v14, v15, v16] st h Q) ∧
    (∀ (v0 v1 v2 v3 v4 v6 v7 v8 v9 v10 v11 v12 v13 v14 v15 v16 : Value) (x : Int32) (st : List Value) (h : mr_h) (Q : Option Value → mr_h → Prop), mr_wp 170 74 [v0, v1, v2, v3, v4, .int x, v6, v7, v8, v9, v10, v11, v12, v13, v14, v15, v16] st h Q = mr_wp 170 76 [v0, v1, v2, v3, v4, .int x, v6, v7, v8, v9, v10, v11, v12, v13, v14, v15, v16] (.int x :: st) h Q) :=
  ⟨fun v1 v2 v3 v4 v5 v6 v7 v8 v9 v10 v11 v12 v13 v14 v15 v16 x st h Q => gx_one (i := .aload_n 0) (len := 1) (by decide +kernel) rfl,
   fun v0 v1 v2 v3 v4 v5 v6 v7 v8 v9 v10 v11 v12 v13 v14 v15 v16 st h Q => gx_one (i := .iconst 0) (len := 1) (by decide +kernel) rfl,
   fun v0 v1 v2 v3 v4 v5 v6 v7 v8 v9 v10 v11 v12 v13 v14 v15 v16 a x st h Q => gx_put (x := 65) (by decide +kernel) (by decide +kernel) ⟨rfl, Or.inl rfl⟩,
   fun v0 v2 v3 v4 v5 v6 v7 v8 v9 v10 v11 v12 v13 v14 v15 v16 x st h Q => gx_one (i := .iload_n 1) (len := 1) (by decide +kernel) rfl,
   fun v0 v1 v2 v3 v4 v5 v6 v7 v8 v9 v10 v11 v12 v13 v14 v15 v16 st h Q => gx_one (i := .iconst 0) (len := 1) (by decide +kernel) rfl,
   fun v0 v1 v2 v3 v4 v5 v6 v7 v8 v9 v10 v11 v12 v13 v14 v15 v16 st h Q => gx_one (i := .bipush 10) (len := 2) (by decide +kernel) rfl,
   fun v0 v1 v2 v3 v4 v5 v6 v7 v8 v9 v10 v11 v12 v13 v14 v15 v16 a0 a1 a2 h Q => gx_stat (x := 69) (t := 121) (n := 3) (by decide +kernel) (by decide +kernel) (by decide) (by decide +kernel) rfl (Or.inl (Nat.le_of_ble_eq_true rfl)) (by show _ ≤ mr_mxl 121; rw [show mr_mxl 121 = 3 from by decide +kernel]; exact Nat.le_of_ble_eq_true rfl),
   fun v0 v1 v2 v3 v4 v5 v6 v7 v8 v9 v10 v11 v12 v13 v14 v15 v16 x st h Q => gx_br (i := .ifCond .eq 29) (len := 3) (c := .eq) (by decide +kernel) rfl rfl,
   fun v1 v2 v3 v4 v5 v6 v7 v8 v9 v10 v11 v12 v13 v14 v15 v16 x st h Q => gx_one (i := .aload_n 0) (len := 1) (by decide +kernel) rfl,
   fun v0 v1 v3 v4 v5 v6 v7 v8 v9 v10 v11 v12 v13 v14 v15 v16 x st h Q => gx_one (i := .iload_n 2) (len := 1) (by decide +kernel) rfl,
   fun v0 v1 v2 v3 v4 v5 v6 v7 v8 v9 v10 v11 v12 v13 v14 v15 v16 a0 o h Q => gx_virt (x := 132) (n := 1) (by decide +kernel) (by decide +kernel) rfl (Or.inl (Nat.le_of_ble_eq_true rfl)) (by show _ ≤ mr_mxl 132; rw [show mr_mxl 132 = 2 from by decide +kernel]; exact Nat.le_of_ble_eq_true rfl) (by decide +kernel),
   fun v0 v1 v2 v3 v4 v5 v6 v7 v8 v9 v10 v11 v12 v13 v14 v15 v16 x st h Q => gx_br (i := .ifCond .eq 21) (len := 3) (c := .eq) (by decide +kernel) rfl rfl,
   fun v1 v2 v3 v4 v5 v6 v7 v8 v9 v10 v11 v12 v13 v14 v15 v16 x st h Q => gx_one (i := .aload_n 0) (len := 1) (by decide +kernel) rfl,
   fun v0 v1 v2 v4 v5 v6 v7 v8 v9 v10 v11 v12 v13 v14 v15 v16 x st h Q => gx_one (i := .iload_n 3) (len := 1) (by decide +kernel) rfl,
   fun v0 v1 v2 v3 v4 v5 v6 v7 v8 v9 v10 v11 v12 v13 v14 v15 v16 a0 o h Q => gx_virt (x := 132) (n := 1) (by decide +kernel) (by decide +kernel) rfl (Or.inl (Nat.le_of_ble_eq_true rfl)) (by show _ ≤ mr_mxl 132; rw [show mr_mxl 132 = 2 from by decide +kernel]; exact Nat.le_of_ble_eq_true rfl) (by decide +kernel),
   fun v0 v1 v2 v3 v4 v5 v6 v7 v8 v9 v10 v11 v12 v13 v14 v15 v16 x st h Q => gx_br (i := .ifCond .eq 13) (len := 3) (c := .eq) (by decide +kernel) rfl rfl,
   fun v0 v1 v2 v3 v5 v6 v7 v8 v9 v10 v11 v12 v13 v14 v15 v16 x st h Q => gx_one (i := .iload 4) (len := 2) (by decide +kernel) rfl,
   fun v0 v1 v2 v3 v4 v5 v6 v7 v8 v9 v10 v11 v12 v13 v14 v15 v16 st h Q => gx_one (i := .iconst 0) (len := 1) (by decide +kernel) rfl,
   fun v0 v1 v2 v3 v4 v5 v6 v7 v8 v9 v10 v11 v12 v13 v14 v15 v16 st h Q => gx_one (i := .iconst 1) (len := 1) (by decide +kernel) rfl,
   fun v0 v1 v2 v3 v4 v5 v6 v7 v8 v9 v10 v11 v12 v13 v14 v15 v16 a0 a1 a2 h Q => gx_stat (x := 69) (t := 121) (n := 3) (by decide +kernel) (by decide +kernel) (by decide) (by decide +kernel) rfl (Or.inl (Nat.le_of_ble_eq_true rfl)) (by show _ ≤ mr_mxl 121; rw [show mr_mxl 121 = 3 from by decide +kernel]; exact Nat.le_of_ble_eq_true rfl),
   fun v0 v1 v2 v3 v4 v5 v6 v7 v8 v9 v10 v11 v12 v13 v14 v15 v16 x st h Q => gx_br (i := .ifCond .ne 5) (len := 3) (c := .ne) (by decide +kernel) rfl rfl,
   fun v0 v1 v2 v3 v4 v5 v6 v7 v8 v9 v10 v11 v12 v13 v14 v15 v16 st h Q => gx_one (i := .iconst (-1)) (len := 1) (by decide +kernel) rfl,
   fun v0 v1 v2 v3 v4 v5 v6 v7 v8 v9 v10 v11 v12 v13 v14 v15 v16 x h Q => gx_ret (i := .ireturn) (len := 1) (by decide +kernel) rfl rfl (by simp only [mr_rt, if_pos]; rw [if_pos (Or.inl (by decide +kernel))]),
   fun v1 v2 v3 v4 v5 v6 v7 v8 v9 v10 v11 v12 v13 v14 v15 v16 x st h Q => gx_one (i := .aload_n 0) (len := 1) (by decide +kernel) rfl,
   fun v1 v2 v3 v4 v5 v6 v7 v8 v9 v10 v11 v12 v13 v14 v15 v16 x st h Q => gx_one (i := .aload_n 0) (len := 1) (by decide +kernel) rfl,
   fun v0 v1 v2 v3 v4 v5 v6 v7 v8 v9 v10 v11 v12 v13 v14 v15 v16 a st h Q => gx_get (x := 16) (by decide +kernel) (by decide +kernel),
   fun v0 v1 v2 v3 v4 v5 v6 v7 v8 v9 v10 v11 v12 v13 v14 v15 v16 a0 o h Q => gx_virt (x := 189) (n := 1) (by decide +kernel) (by decide +kernel) rfl (Or.inl (Nat.le_of_ble_eq_true rfl)) (by show _ ≤ mr_mxl 146; rw [show mr_mxl 146 = 4 from by decide +kernel]; exact Nat.le_of_ble_eq_true rfl) (by decide +kernel),
   fun v0 v1 v2 v3 v5 v6 v7 v8 v9 v10 v11 v12 v13 v14 v15 v16 w4 x st h Q => gx_one (i := .istore 5) (len := 2) (by decide +kernel) rfl,
   fun v0 v1 v2 v3 v4 v6 v7 v8 v9 v10 v11 v12 v13 v14 v15 v16 x st h Q => gx_one (i := .iload 5) (len := 2) (by decide +kernel) rfl,
   fun v0 v1 v2 v3 v4 v5 v6 v7 v8 v9 v10 v11 v12 v13 v14 v15 v16 st h Q => gx_one (i := .bipush 9) (len := 2) (by decide +kernel) rfl,
   fun v0 v1 v2 v3 v4 v5 v6 v7 v8 v9 v10 v11 v12 v13 v14 v15 v16 x y st h Q => gx_br (i := .if_icmp .le 6) (len := 3) (c := .le) (by decide +kernel) rfl rfl,
   fun v0 v1 v2 v3 v4 v5 v6 v7 v8 v9 v10 v11 v12 v13 v14 v15 v16 st h Q => gx_one (i := .bipush (-2)) (len := 2) (by decide +kernel) rfl,
   fun v0 v1 v2 v3 v4 v5 v6 v7 v8 v9 v10 v11 v12 v13 v14 v15 v16 x h Q => gx_ret (i := .ireturn) (len := 1) (by decide +kernel) rfl rfl (by simp only [mr_rt, if_pos]; rw [if_pos (Or.inl (by decide +kernel))]),
   fun v0 v1 v2 v3 v4 v5 v6 v7 v8 v9 v10 v11 v12 v13 v14 v15 v16 st h Q => gx_one (i := .lconst 0) (len := 1) (by decide +kernel) rfl,
   fun v0 v1 v2 v3 v4 v6 v7 v8 v9 v10 v11 v12 v13 v14 v15 v16 w5 x st h Q => gx_one (i := .lstore 6) (len := 2) (by decide +kernel) rfl,
   fun v0 v1 v2 v3 v4 v5 v6 v7 v8 v9 v10 v11 v12 v13 v14 v15 v16 st h Q => gx_one (i := .lconst 1) (len := 1) (by decide +kernel) rfl,
   fun v0 v1 v2 v3 v4 v5 v6 v8 v9 v10 v11 v12 v13 v14 v15 v16 x st h Q => gx_one (i := .lstore 8) (len := 2) (by decide +kernel) rfl,
   fun v0 v1 v2 v3 v4 v5 v6 v7 v8 v9 v10 v11 v12 v13 v14 v15 v16 st h Q => gx_one (i := .iconst 0) (len := 1) (by decide +kernel) rfl,
   fun v0 v1 v2 v3 v4 v5 v6 v7 v8 v10 v11 v12 v13 v14 v15 v16 x st h Q => gx_one (i := .istore 10) (len := 2) (by decide +kernel) rfl,
   fun v0 v1 v2 v3 v4 v6 v7 v8 v9 v10 v11 v12 v13 v14 v15 v16 x st h Q => gx_one (i := .iload 5) (len := 2) (by decide +kernel) rfl⟩
theorem S_mo_odds_1 : (∀ (v0 v1 v2 v3 v4 v5 v6 v7 v8 v9 v10 v11 v12 v13 v14 v15 v16 : Value) (x : Int32) (y : Int32) (st : List Value) (h : mr_h) (Q : Option Value → mr_h → Prop), mr_wp 170 76 [v0, v1, v2, v3, v4, v5, v6, v7, v8, v9, v10, v11, v12, v13, v14, v15, v16] (.int y :: .int x :: st) h Q = if y ≤ x then mr_wp 170 93 [v0, v1, v2, v3, v4, v5, v6, v7, v8, v9, v10, v11, v12, v13, v14, v15, v16] st h Q else mr_wp 170 79 [v0, v1, v2, v3, v4, v5, v6, v7, v8, v9, v10, v11, v12, v13, v14, v15, v16] st h Q) ∧
    (∀ (v0 v1 v2 v3 v4 v5 v6 v7 v9 v10 v11 v12 v13 v14 v15 v16 : Value) (x : Int64) (st : List Value) (h : mr_h) (Q : Option Value → mr_h → Prop), mr_wp 170 79 [v0, v1, v2, v3, v4, v5, v6, v7, .long x, v9, v10, v11, v12, v13, v14, v15, v16] st h Q = mr_wp 170 81 [v0, v1, v2, v3, v4, v5, v6, v7, .long x, v9, v10, v11, v12, v13, v14, v15, v16] (.long x :: st) h Q) ∧
    (∀ (v0 v1 v2 v3 v4 v5 v6 v7 v8 v9 v10 v11 v12 v13 v14 v15 v16 : Value) (st : List Value) (h : mr_h) (Q : Option Value → mr_h → Prop), mr_wp 170 81 [v0, v1, v2, v3, v4, v5, v6, v7, v8, v9, v10, v11, v12, v13, v14, v15, v16] st h Q = mr_wp 170 84 [v0, v1, v2, v3, v4, v5, v6, v7, v8, v9, v10, v11, v12, v13, v14, v15, v16] (.long (10) :: st) h Q) ∧
    (∀ (v0 v1 v2 v3 v4 v5 v6 v7 v8 v9 v10 v11 v12 v13 v14 v15 v16 : Value) (x : Int64) (y : Int64) (st : List Value) (h : mr_h) (Q : Option Value → mr_h → Prop), mr_wp 170 84 [v0, v1, v2, v3, v4, v5, v6, v7, v8, v9, v10, v11, v12, v13, v14, v15, v16] (.long y :: .long x :: st) h Q = mr_wp 170 85 [v0, v1, v2, v3, v4, v5, v6, v7, v8, v9, v10, v11, v12, v13, v14, v15, v16] (.long (x * y) :: st) h Q) ∧
    (∀ (v0 v1 v2 v3 v4 v5 v6 v8 v9 v10 v11 v12 v13 v14 v15 v16 : Value) (x : Int64) (st : List Value) (h : mr_h) (Q : Option Value → mr_h → Prop), mr_wp 170 85 [v0, v1, v2, v3, v4, v5, v6, .null, v8, v9, v10, v11, v12, v13, v14, v15, v16] (.long x :: st) h Q = mr_wp 170 87 [v0, v1, v2, v3, v4, v5, v6, .null, .long x, .null, v10, v11, v12, v13, v14, v15, v16] st h Q) ∧
    (∀ (v0 v1 v2 v3 v4 v5 v6 v7 v8 v11 v12 v13 v14 v15 v16 : Value) (x : Int32) (st : List Value) (h : mr_h) (Q : Option Value → mr_h → Prop), mr_wp 170 87 [v0, v1, v2, v3, v4, v5, v6, v7, v8, .null, .int x, v11, v12, v13, v14, v15, v16] st h Q = mr_wp 170 90 [v0, v1, v2, v3, v4, v5, v6, v7, v8, .null, .int (x + (1)), v11, v12, v13, v14, v15, v16] st h Q) ∧
    (∀ (v0 v1 v2 v3 v4 v5 v6 v7 v8 v9 v10 v11 v12 v13 v14 v15 v16 : Value) (st : List Value) (h : mr_h) (Q : Option Value → mr_h → Prop), mr_wp 170 90 [v0, v1, v2, v3, v4, v5, v6, v7, v8, v9, v10, v11, v12, v13, v14, v15, v16] st h Q = mr_wp 170 72 [v0, v1, v2, v3, v4, v5, v6, v7, v8, v9, v10, v11, v12, v13, v14, v15, v16] st h Q) ∧
    (∀ (v0 v1 v2 v3 v4 v5 v6 v7 v8 v9 v10 v11 v12 v13 v14 v15 v16 : Value) (st : List Value) (h : mr_h) (Q : Option Value → mr_h → Prop), mr_wp 170 93 [v0, v1, v2, v3, v4, v5, v6, v7, v8, v9, v10, v11, v12, v13, v14, v15, v16] st h Q = mr_wp 170 94 [v0, v1, v2, v3, v4, v5, v6, v7, v8, v9, v10, v11, v12, v13, v14, v15, v16] (.int (0) :: st) h Q) ∧
    (∀ (v0 v1 v2 v3 v4 v5 v6 v7 v8 v10 v11 v12 v13 v14 v15 v16 : Value) (x : Int32) (st : List Value) (h : mr_h) (Q : Option Value → mr_h → Prop), mr_wp 170 94 [v0, v1, v2, v3, v4, v5, v6, v7, v8, .null, v10, v11, v12, v13, v14, v15, v16] (.int x :: st) h Q = mr_wp 170 96 [v0, v1, v2, v3, v4, v5, v6, v7, v8, .null, .int x, v11, v12, v13, v14, v15, v16] st h Q) ∧
    (∀ (v0 v1 v2 v3 v4 v5 v6 v7 v8 v9 v10 v11 v12 v13 v14 v15 v16 : Value) (st : List Value) (h : mr_h) (Q : Option Value → mr_h → Prop), mr_wp 170 98 [v0, v1, v2, v3, v4, v5, v6, v7, v8, v9, v10, v11, v12, v13, v14, v15, v16] st h Q = mr_wp 170 99 [v0, v1, v2, v3, v4, v5, v6, v7, v8, v9, v10, v11, v12, v13, v14, v15, v16] (.int (1) :: st) h Q) ∧
    (∀ (v0 v1 v2 v3 v4 v6 v7 v8 v9 v10 v11 v12 v13 v14 v15 v16 : Value) (x : Int32) (st : List Value) (h : mr_h) (Q : Option Value → mr_h → Prop), mr_wp 170 99 [v0, v1, v2, v3, v4, .int x, v6, v7, v8, v9, v10, v11, v12, v13, v14, v15, v16] st h Q = mr_wp 170 101 [v0, v1, v2, v3, v4, .int x, v6, v7, v8, v9, v10, v11, v12, v13, v14, v15, v16] (.int x :: st) h Q) ∧
    (∀ (v0 v1 v2 v3 v4 v5 v6 v7 v8 v9 v10 v11 v12 v13 v14 v15 v16 : Value) (x : Int32) (y : Int32) (st : List Value) (h : mr_h) (Q : Option Value → mr_h → Prop), mr_wp 170 101 [v0, v1, v2, v3, v4, v5, v6, v7, v8, v9, v10, v11, v12, v13, v14, v15, v16] (.int y :: .int x :: st) h Q = mr_wp 170 102 [v0, v1, v2, v3, v4, v5, v6, v7, v8, v9, v10, v11, v12, v13, v14, v15, v16] (.int (x <<< (y &&& 31)) :: st) h Q) ∧
    (∀ (v0 v1 v2 v3 v4 v5 v6 v7 v8 v9 v10 v11 v12 v13 v14 v15 v16 : Value) (x : Int32) (y : Int32) (st : List Value) (h : mr_h) (Q : Option Value → mr_h → Prop), mr_wp 170 102 [v0, v1, v2, v3, v4, v5, v6, v7, v8, v9, v10, v11, v12, v13, v14, v15, v16] (.int y :: .int x :: st) h Q = if y ≤ x then mr_wp 170 267 [v0, v1, v2, v3, v4, v5, v6, v7, v8, v9, v10, v11, v12, v13, v14, v15, v16] st h Q else mr_wp 170 105 [v0, v1, v2, v3, v4, v5, v6, v7, v8, v9, v10, v11, v12, v13, v14, v15, v16] st h Q) ∧
    (∀ (v1 v2 v3 v4 v5 v6 v7 v8 v9 v10 v11 v12 v13 v14 v15 v16 : Value) (x : Nat) (st : List Value) (h : mr_h) (Q : Option Value → mr_h → Prop), mr_wp 170 105 [.ref x, v1, v2, v3, v4, v5, v6, v7, v8, v9, v10, v11, v12, v13, v14, v15, v16] st h Q = mr_wp 170 106 [.ref x, v1, v2, v3, v4, v5, v6, v7, v8, v9, v10, v11, v12, v13, v14, v15, v16] (.ref x :: st) h Q) ∧
    (∀ (v0 v1 v2 v3 v4 v5 v6 v7 v8 v9 v10 v11 v12 v13 v14 v15 v16 : Value) (o : Nat) (h : mr_h) (Q : Option Value → mr_h → Prop), mr_wp 170 106 [v0, v1, v2, v3, v4, v5, v6, v7, v8, v9, v10, v11, v12, v13, v14, v15, v16] [.ref o] h Q = mr_rc (h.1 o) 11 (mr_run 153 [.ref o] h (fun v h' => mr_wp 170 109 [v0, v1, v2, v3, v4, v5, v6, v7, v8, v9, v10, v11, v12, v13, v14, v15, v16] (v.toList ++ []) h' Q))) ∧
    (∀ (v0 v1 v2 v3 v4 v5 v6 v7 v8 v9 v10 v11 v12 v13 v14 v15 v16 : Value) (st : List Value) (h : mr_h) (Q : Option Value → mr_h → Prop), mr_wp 170 109 [v0, v1, v2, v3, v4, v5, v6, v7, v8, v9, v10, v11, v12, v13, v14, v15, v16] st h Q = mr_wp 170 110 [v0, v1, v2, v3, v4, v5, v6, v7, v8, v9, v10, v11, v12, v13, v14, v15, v16] (.long (1) :: st) h Q) ∧
    (∀ (v0 v1 v2 v3 v4 v5 v6 v7 v8 v9 v11 v12 v13 v14 v15 v16 : Value) (w10 : Int32) (x : Int64) (st : List Value) (h : mr_h) (Q : Option Value → mr_h → Prop), mr_wp 170 110 [v0, v1, v2, v3, v4, v5, v6, v7, v8, v9, .int w10, v11, v12, v13, v14, v15, v16] (.long x :: st) h Q = mr_wp 170 112 [v0, v1, v2, v3, v4, v5, v6, v7, v8, v9, .int w10, .long x, .null, v13, v14, v15, v16] st h Q) ∧
    (∀ (v0 v1 v2 v3 v4 v5 v6 v7 v8 v9 v10 v11 v12 v13 v14 v15 v16 : Value) (st : List Value) (h : mr_h) (Q : Option Value → mr_h → Prop), mr_wp 170 112 [v0, v1, v2, v3, v4, v5, v6, v7, v8, v9, v10, v11, v12, v13, v14, v15, v16] st h Q = mr_wp 170 113 [v0, v1, v2, v3, v4, v5, v6, v7, v8, v9, v10, v11, v12, v13, v14, v15, v16] (.int (0) :: st) h Q) ∧
    (∀ (v0 v1 v2 v3 v4 v5 v6 v7 v8 v9 v10 v11 v13 v14 v15 v16 : Value) (x : Int32) (st : List Value) (h : mr_h) (Q : Option Value → mr_h → Prop), mr_wp 170 113 [v0, v1, v2, v3, v4, v5, v6, v7, v8, v9, v10, v11, .null, v13, v14, v15, v16] (.int x :: st) h Q = mr_wp 170 115 [v0, v1, v2, v3, v4, v5, v6, v7, v8, v9, v10, v11, .null, .int x, v14, v15, v16] st h Q) ∧
    (∀ (v0 v1 v2 v3 v4 v5 v6 v7 v8 v9 v10 v11 v12 v13 v14 v15 v16 : Value) (st : List Value) (h : mr_h) (Q : Option Value → mr_h → Prop), mr_wp 170 115 [v0, v1, v2, v3, v4, v5, v6, v7, v8, v9, v10, v11, v12, v13, v14, v15, v16] st h Q = mr_wp 170 116 [v0, v1, v2, v3, v4, v5, v6, v7, v8, v9, v10, v11, v12, v13, v14, v15, v16] (.int (0) :: st) h Q) ∧
    (∀ (v0 v1 v2 v3 v4 v5 v6 v7 v8 v9 v10 v11 v12 v14 v15 v16 : Value) (w13 : Int32) (x : Int32) (st : List Value) (h : mr_h) (Q : Option Value → mr_h → Prop), mr_wp 170 116 [v0, v1, v2, v3, v4, v5, v6, v7, v8, v9, v10, v11, v12, .int w13, v14, v15, v16] (.int x :: st) h Q = mr_wp 170 118 [v0, v1, v2, v3, v4, v5, v6, v7, v8, v9, v10, v11, v12, .int w13, .int x, v15, v16] st h Q) ∧
    (∀ (v1 v2 v3 v4 v5 v6 v7 v8 v9 v10 v11 v12 v13 v14 v15 v16 : Value) (x : Nat) (st : List Value) (h : mr_h) (Q : Option Value → mr_h → Prop), mr_wp 170 120 [.ref x, v1, v2, v3, v4, v5, v6, v7, v8, v9, v10, v11, v12, v13, v14, v15, v16] st h Q = mr_wp 170 121 [.ref x, v1, v2, v3, v4, v5, v6, v7, v8, v9, v10, v11, v12, v13, v14, v15, v16] (.ref x :: st) h Q) ∧
    (∀ (v0 v1 v2 v3 v4 v5 v6 v7 v8 v9 v10 v11 v12 v13 v14 v15 v16 : Value) (a : Nat) (st : List Value) (h : mr_h) (Q : Option Value → mr_h → Prop), mr_wp 170 121 [v0, v1, v2, v3, v4, v5, v6, v7, v8, v9, v10, v11, v12, v13, v14, v15, v16] (.ref a :: st) h Q = mr_gf (h.1 a) 11 8 (fun v => mr_wp 170 124 [v0, v1, v2, v3, v4, v5, v6, v7, v8, v9, v10, v11, v12, v13, v14, v15, v16] (v :: st) h Q)) ∧
    (∀ (v0 v1 v2 v3 v4 v5 v6 v7 v8 v9 v10 v11 v12 v13 v14 v15 v16 : Value) (x : Int32) (y : Int32) (st : List Value) (h : mr_h) (Q : Option Value → mr_h → Prop), mr_wp 170 124 [v0, v1, v2, v3, v4, v5, v6, v7, v8, v9, v10, v11, v12, v13, v14, v15, v16] (.int y :: .int x :: st) h Q = if y ≤ x then mr_wp 170 225 [v0, v1, v2, v3, v4, v5, v6, v7, v8, v9, v10, v11, v12, v13, v14, v15, v16] st h Q else mr_wp 170 127 [v0, v1, v2, v3, v4, v5, v6, v7, v8, v9, v10, v11, v12, v13, v14, v15, v16] st h Q) ∧
    (∀ (v0 v1 v2 v3 v4 v5 v6 v7 v8 v9 v10 v11 v12 v13 v14 v15 v16 : Value) (st : List Value) (h : mr_h) (Q : Option Value → mr_h → Prop), mr_wp 170 127 [v0, v1, v2, v3, v4, v5, v6, v7, v8, v9, v10, v11, v12, v13, v14, v15, v16] st h Q = mr_wp 170 128 [v0, v1, v2, v3, v4, v5, v6, v7, v8, v9, v10, v11, v12, v13, v14, v15, v16] (.int (0) :: st) h Q) ∧
    (∀ (v0 v1 v2 v3 v4 v5 v6 v7 v8 v9 v10 v11 v12 v13 v15 v16 : Value) (w14 : Int32) (x : Int32) (st : List Value) (h : mr_h) (Q : Option Value → mr_h → Prop), mr_wp 170 128 [v0, v1, v2, v3, v4, v5, v6, v7, v8, v9, v10, v11, v12, v13, .int w14, v15, v16] (.int x :: st) h Q = mr_wp 170 130 [v0, v1, v2, v3, v4, v5, v6, v7, v8, v9, v10, v11, v12, v13, .int w14, .int x, v16] st h Q) ∧
    (∀ (v1 v2 v3 v4 v5 v6 v7 v8 v9 v10 v11 v12 v13 v14 v15 v16 : Value) (x : Nat) (st : List Value) (h : mr_h) (Q : Option Value → mr_h → Prop), mr_wp 170 132 [.ref x, v1, v2, v3, v4, v5, v6, v7, v8, v9, v10, v11, v12, v13, v14, v15, v16] st h Q = mr_wp 170 133 [.ref x, v1, v2, v3, v4, v5, v6, v7, v8, v9, v10, v11, v12, v13, v14, v15, v16] (.ref x :: st) h Q) ∧
    (∀ (v0 v1 v2 v3 v4 v5 v6 v7 v8 v9 v10 v11 v12 v13 v14 v15 v16 : Value) (a : Nat) (st : List Value) (h : mr_h) (Q : Option Value → mr_h → Prop), mr_wp 170 133 [v0, v1, v2, v3, v4, v5, v6, v7, v8, v9, v10, v11, v12, v13, v14, v15, v16] (.ref a :: st) h Q = mr_gf (h.1 a) 11 8 (fun v => mr_wp 170 136 [v0, v1, v2, v3, v4, v5, v6, v7, v8, v9, v10, v11, v12, v13, v14, v15, v16] (v :: st) h Q)) ∧
    (∀ (v0 v1 v2 v3 v4 v5 v6 v7 v8 v9 v10 v11 v12 v13 v14 v15 v16 : Value) (x : Int32) (y : Int32) (st : List Value) (h : mr_h) (Q : Option Value → mr_h → Prop), mr_wp 170 136 [v0, v1, v2, v3, v4, v5, v6, v7, v8, v9, v10, v11, v12, v13, v14, v15, v16] (.int y :: .int x :: st) h Q = if y ≤ x then mr_wp 170 219 [v0, v1, v2, v3, v4, v5, v6, v7, v8, v9, v10, v11, v12, v13, v14, v15, v16] st h Q else mr_wp 170 139 [v0, v1, v2, v3, v4, v5, v6, v7, v8, v9, v10, v11, v12, v13, v14, v15, v16] st h Q) ∧
    (∀ (v1 v2 v3 v4 v5 v6 v7 v8 v9 v10 v11 v12 v13 v14 v15 v16 : Value) (x : Nat) (st : List Value) (h : mr_h) (Q : Option Value → mr_h → Prop), mr_wp 170 139 [.ref x, v1, v2, v3, v4, v5, v6, v7, v8, v9, v10, v11, v12, v13, v14, v15, v16] st h Q = mr_wp 170 140 [.ref x, v1, v2, v3, v4, v5, v6, v7, v8, v9, v10, v11, v12, v13, v14, v15, v16] (.ref x :: st) h Q) ∧
    (∀ (v0 v1 v2 v3 v4 v5 v6 v7 v8 v9 v10 v11 v12 v13 v14 v15 v16 : Value) (a : Nat) (st : List Value) (h : mr_h) (Q : Option Value → mr_h → Prop), mr_wp 170 140 [v0, v1, v2, v3, v4, v5, v6, v7, v8, v9, v10, v11, v12, v13, v14, v15, v16] (.ref a :: st) h Q = mr_gf (h.1 a) 11 12 (fun v => mr_wp 170 143 [v0, v1, v2, v3, v4, v5, v6, v7, v8, v9, v10, v11, v12, v13, v14, v15, v16] (v :: st) h Q)) ∧
    (∀ (v0 v1 v2 v3 v4 v5 v6 v7 v8 v9 v10 v11 v12 v13 v14 v15 v16 : Value) (st : List Value) (h : mr_h) (Q : Option Value → mr_h → Prop), mr_wp 170 143 [v0, v1, v2, v3, v4, v5, v6, v7, v8, v9, v10, v11, v12, v13, v14, v15, v16] st h Q = mr_wp 170 144 [v0, v1, v2, v3, v4, v5, v6, v7, v8, v9, v10, v11, v12, v13, v14, v15, v16] (.int (0) :: st) h Q) ∧
    (∀ (v0 v1 v2 v3 v4 v5 v6 v7 v8 v9 v10 v11 v12 v13 v15 v16 : Value) (x : Int32) (st : List Value) (h : mr_h) (Q : Option Value → mr_h → Prop), mr_wp 170 144 [v0, v1, v2, v3, v4, v5, v6, v7, v8, v9, v10, v11, v12, v13, .int x, v15, v16] st h Q = mr_wp 170 146 [v0, v1, v2, v3, v4, v5, v6, v7, v8, v9, v10, v11, v12, v13, .int x, v15, v16] (.int x :: st) h Q) ∧
    (∀ (v0 v1 v2 v3 v4 v5 v6 v7 v8 v9 v10 v11 v12 v13 v14 v15 v16 : Value) (x : Int32) (y : Int32) (st : List Value) (h : mr_h) (Q : Option Value → mr_h → Prop), mr_wp 170 146 [v0, v1, v2, v3, v4, v5, v6, v7, v8, v9, v10, v11, v12, v13, v14, v15, v16] (.int y :: .int x :: st) h Q = mr_wp 170 147 [v0, v1, v2, v3, v4, v5, v6, v7, v8, v9, v10, v11, v12, v13, v14, v15, v16] (.int (x + y) :: st) h Q) ∧
    (∀ (v0 v1 v2 v3 v4 v5 v6 v7 v8 v9 v10 v11 v12 v13 v14 v15 v16 : Value) (a : Nat) (x : Int32) (st : List Value) (h : mr_h) (Q : Option Value → mr_h → Prop), mr_wp 170 147 [v0, v1, v2, v3, v4, v5, v6, v7, v8, v9, v10, v11, v12, v13, v14, v15, v16] (.int x :: .ref a :: st) h Q = mr_ai (h.1 a) x (fun v => mr_wp 170 148 [v0, v1, v2, v3, v4, v5, v6, v7, v8, v9, v10, v11, v12, v13, v14, v15, v16] (.int v :: st) h Q)) ∧
    (∀ (v0 v1 v2 v3 v4 v5 v6 v7 v8 v9 v10 v11 v12 v13 v14 v16 : Value) (x : Int32) (st : List Value) (h : mr_h) (Q : Option Value → mr_h → Prop), mr_wp 170 148 [v0, v1, v2, v3, v4, v5, v6, v7, v8, v9, v10, v11, v12, v13, v14, .int x, v16] st h Q = mr_wp 170 150 [v0, v1, v2, v3, v4, v5, v6, v7, v8, v9, v10, v11, v12, v13, v14, .int x, v16] (.int x :: st) h Q) ∧
    (∀ (v0 v1 v2 v3 v4 v5 v6 v7 v8 v9 v10 v11 v12 v13 v14 v15 v16 : Value) (a0 : Int32) (a1 : Int32) (h : mr_h) (Q : Option Value → mr_h → Prop), mr_wp 170 150 [v0, v1, v2, v3, v4, v5, v6, v7, v8, v9, v10, v11, v12, v13, v14, v15, v16] [.int a1, .int a0] h Q = mr_run 130 [.int a0, .int a1] h (fun v h' => mr_wp 170 153 [v0, v1, v2, v3, v4, v5, v6, v7, v8, v9, v10, v11, v12, v13, v14, v15, v16] (v.toList ++ []) h' Q)) ∧
    (∀ (v0 v1 v2 v3 v4 v5 v6 v7 v8 v9 v10 v11 v12 v13 v14 v15 v16 : Value) (x : Int32) (st : List Value) (h : mr_h) (Q : Option Value → mr_h → Prop), mr_wp 170 153 [v0, v1, v2, v3, v4, v5, v6, v7, v8, v9, v10, v11, v12, v13, v14, v15, v16] (.int x :: st) h Q = if x = 0 then mr_wp 170 213 [v0, v1, v2, v3, v4, v5, v6, v7, v8, v9, v10, v11, v12, v13, v14, v15, v16] st h Q else mr_wp 170 156 [v0, v1, v2, v3, v4, v5, v6, v7, v8, v9, v10, v11, v12, v13, v14, v15, v16] st h Q) ∧
    (∀ (v0 v1 v2 v3 v4 v5 v6 v7 v8 v9 v11 v12 v13 v14 v15 v16 : Value) (x : Int32) (st : List Value) (h : mr_h) (Q : Option Value → mr_h → Prop), mr_wp 170 156 [v0, v1, v2, v3, v4, v5, v6, v7, v8, v9, .int x, v11, v12, v13, v14, v15, v16] st h Q = mr_wp 170 158 [v0, v1, v2, v3, v4, v5, v6, v7, v8, v9, .int x, v11, v12, v13, v14, v15, v16] (.int x :: st) h Q) ∧
    (∀ (v0 v1 v2 v3 v4 v5 v6 v7 v8 v9 v10 v11 v12 v14 v15 v16 : Value) (x : Int32) (st : List Value) (h : mr_h) (Q : Option Value → mr_h → Prop), mr_wp 170 158 [v0, v1, v2, v3, v4, v5, v6, v7, v8, v9, v10, v11, v12, .int x, v14, v15, v16] st h Q = mr_wp 170 160 [v0, v1, v2, v3, v4, v5, v6, v7, v8, v9, v10, v11, v12, .int x, v14, v15, v16] (.int x :: st) h Q) :=
  ⟨fun v0 v1 v2 v3 v4 v5 v6 v7 v8 v9 v10 v11 v12 v13 v14 v15 v16 x y st h Q => gx_br (i := .if_icmp .ge 17) (len := 3) (c := .ge) (by decide +kernel) rfl rfl,
   fun v0 v1 v2 v3 v4 v5 v6 v7 v9 v10 v11 v12 v13 v14 v15 v16 x st h Q => gx_one (i := .lload 8) (len := 2) (by decide +kernel) rfl,
   fun v0 v1 v2 v3 v4 v5 v6 v7 v8 v9 v10 v11 v12 v13 v14 v15 v16 st h Q => gx_ldc2 (x := 213) (by decide +kernel) (by decide +kernel),
   fun v0 v1 v2 v3 v4 v5 v6 v7 v8 v9 v10 v11 v12 v13 v14 v15 v16 x y st h Q => gx_one (i := .lmul) (len := 1) (by decide +kernel) rfl,
   fun v0 v1 v2 v3 v4 v5 v6 v8 v9 v10 v11 v12 v13 v14 v15 v16 x st h Q => gx_one (i := .lstore 8) (len := 2) (by decide +kernel) rfl,
   fun v0 v1 v2 v3 v4 v5 v6 v7 v8 v11 v12 v13 v14 v15 v16 x st h Q => gx_one (i := .iinc 10 1) (len := 3) (by decide +kernel) rfl,
   fun v0 v1 v2 v3 v4 v5 v6 v7 v8 v9 v10 v11 v12 v13 v14 v15 v16 st h Q => gx_one (i := .goto (-18)) (len := 3) (by decide +kernel) rfl,
   fun v0 v1 v2 v3 v4 v5 v6 v7 v8 v9 v10 v11 v12 v13 v14 v15 v16 st h Q => gx_one (i := .iconst 0) (len := 1) (by decide +kernel) rfl,
   fun v0 v1 v2 v3 v4 v5 v6 v7 v8 v10 v11 v12 v13 v14 v15 v16 x st h Q => gx_one (i := .istore 10) (len := 2) (by decide +kernel) rfl,
   fun v0 v1 v2 v3 v4 v5 v6 v7 v8 v9 v10 v11 v12 v13 v14 v15 v16 st h Q => gx_one (i := .iconst 1) (len := 1) (by decide +kernel) rfl,
   fun v0 v1 v2 v3 v4 v6 v7 v8 v9 v10 v11 v12 v13 v14 v15 v16 x st h Q => gx_one (i := .iload 5) (len := 2) (by decide +kernel) rfl,
   fun v0 v1 v2 v3 v4 v5 v6 v7 v8 v9 v10 v11 v12 v13 v14 v15 v16 x y st h Q => gx_one (i := .ishl) (len := 1) (by decide +kernel) rfl,
   fun v0 v1 v2 v3 v4 v5 v6 v7 v8 v9 v10 v11 v12 v13 v14 v15 v16 x y st h Q => gx_br (i := .if_icmp .ge 165) (len := 3) (c := .ge) (by decide +kernel) rfl rfl,
   fun v1 v2 v3 v4 v5 v6 v7 v8 v9 v10 v11 v12 v13 v14 v15 v16 x st h Q => gx_one (i := .aload_n 0) (len := 1) (by decide +kernel) rfl,
   fun v0 v1 v2 v3 v4 v5 v6 v7 v8 v9 v10 v11 v12 v13 v14 v15 v16 o h Q => gx_virt (x := 176) (n := 0) (by decide +kernel) (by decide +kernel) rfl (Or.inl (Nat.le_of_ble_eq_true rfl)) (by show _ ≤ mr_mxl 153; rw [show mr_mxl 153 = 2 from by decide +kernel]; exact Nat.le_of_ble_eq_true rfl) (by decide +kernel),
   fun v0 v1 v2 v3 v4 v5 v6 v7 v8 v9 v10 v11 v12 v13 v14 v15 v16 st h Q => gx_one (i := .lconst 1) (len := 1) (by decide +kernel) rfl,
   fun v0 v1 v2 v3 v4 v5 v6 v7 v8 v9 v11 v12 v13 v14 v15 v16 w10 x st h Q => gx_one (i := .lstore 11) (len := 2) (by decide +kernel) rfl,
   fun v0 v1 v2 v3 v4 v5 v6 v7 v8 v9 v10 v11 v12 v13 v14 v15 v16 st h Q => gx_one (i := .iconst 0) (len := 1) (by decide +kernel) rfl,
   fun v0 v1 v2 v3 v4 v5 v6 v7 v8 v9 v10 v11 v13 v14 v15 v16 x st h Q => gx_one (i := .istore 13) (len := 2) (by decide +kernel) rfl,
   fun v0 v1 v2 v3 v4 v5 v6 v7 v8 v9 v10 v11 v12 v13 v14 v15 v16 st h Q => gx_one (i := .iconst 0) (len := 1) (by decide +kernel) rfl,
   fun v0 v1 v2 v3 v4 v5 v6 v7 v8 v9 v10 v11 v12 v14 v15 v16 w13 x st h Q => gx_one (i := .istore 14) (len := 2) (by decide +kernel) rfl,
   fun v1 v2 v3 v4 v5 v6 v7 v8 v9 v10 v11 v12 v13 v14 v15 v16 x st h Q => gx_one (i := .aload_n 0) (len := 1) (by decide +kernel) rfl,
   fun v0 v1 v2 v3 v4 v5 v6 v7 v8 v9 v10 v11 v12 v13 v14 v15 v16 a st h Q => gx_get (x := 123) (by decide +kernel) (by decide +kernel),
   fun v0 v1 v2 v3 v4 v5 v6 v7 v8 v9 v10 v11 v12 v13 v14 v15 v16 x y st h Q => gx_br (i := .if_icmp .ge 101) (len := 3) (c := .ge) (by decide +kernel) rfl rfl,
   fun v0 v1 v2 v3 v4 v5 v6 v7 v8 v9 v10 v11 v12 v13 v14 v15 v16 st h Q => gx_one (i := .iconst 0) (len := 1) (by decide +kernel) rfl,
   fun v0 v1 v2 v3 v4 v5 v6 v7 v8 v9 v10 v11 v12 v13 v15 v16 w14 x st h Q => gx_one (i := .istore 15) (len := 2) (by decide +kernel) rfl,
   fun v1 v2 v3 v4 v5 v6 v7 v8 v9 v10 v11 v12 v13 v14 v15 v16 x st h Q => gx_one (i := .aload_n 0) (len := 1) (by decide +kernel) rfl,
   fun v0 v1 v2 v3 v4 v5 v6 v7 v8 v9 v10 v11 v12 v13 v14 v15 v16 a st h Q => gx_get (x := 123) (by decide +kernel) (by decide +kernel),
   fun v0 v1 v2 v3 v4 v5 v6 v7 v8 v9 v10 v11 v12 v13 v14 v15 v16 x y st h Q => gx_br (i := .if_icmp .ge 83) (len := 3) (c := .ge) (by decide +kernel) rfl rfl,
   fun v1 v2 v3 v4 v5 v6 v7 v8 v9 v10 v11 v12 v13 v14 v15 v16 x st h Q => gx_one (i := .aload_n 0) (len := 1) (by decide +kernel) rfl,
   fun v0 v1 v2 v3 v4 v5 v6 v7 v8 v9 v10 v11 v12 v13 v14 v15 v16 a st h Q => gx_get (x := 16) (by decide +kernel) (by decide +kernel),
   fun v0 v1 v2 v3 v4 v5 v6 v7 v8 v9 v10 v11 v12 v13 v14 v15 v16 st h Q => gx_one (i := .iconst 0) (len := 1) (by decide +kernel) rfl,
   fun v0 v1 v2 v3 v4 v5 v6 v7 v8 v9 v10 v11 v12 v13 v15 v16 x st h Q => gx_one (i := .iload 14) (len := 2) (by decide +kernel) rfl,
   fun v0 v1 v2 v3 v4 v5 v6 v7 v8 v9 v10 v11 v12 v13 v14 v15 v16 x y st h Q => gx_one (i := .iadd) (len := 1) (by decide +kernel) rfl,
   fun v0 v1 v2 v3 v4 v5 v6 v7 v8 v9 v10 v11 v12 v13 v14 v15 v16 a x st h Q => gx_iald (by decide +kernel),
   fun v0 v1 v2 v3 v4 v5 v6 v7 v8 v9 v10 v11 v12 v13 v14 v16 x st h Q => gx_one (i := .iload 15) (len := 2) (by decide +kernel) rfl,
   fun v0 v1 v2 v3 v4 v5 v6 v7 v8 v9 v10 v11 v12 v13 v14 v15 v16 a0 a1 h Q => gx_stat (x := 116) (t := 130) (n := 2) (by decide +kernel) (by decide +kernel) (by decide) (by decide +kernel) rfl (Or.inl (Nat.le_of_ble_eq_true rfl)) (by show _ ≤ mr_mxl 130; rw [show mr_mxl 130 = 2 from by decide +kernel]; exact Nat.le_of_ble_eq_true rfl),
   fun v0 v1 v2 v3 v4 v5 v6 v7 v8 v9 v10 v11 v12 v13 v14 v15 v16 x st h Q => gx_br (i := .ifCond .eq 60) (len := 3) (c := .eq) (by decide +kernel) rfl rfl,
   fun v0 v1 v2 v3 v4 v5 v6 v7 v8 v9 v11 v12 v13 v14 v15 v16 x st h Q => gx_one (i := .iload 10) (len := 2) (by decide +kernel) rfl,
   fun v0 v1 v2 v3 v4 v5 v6 v7 v8 v9 v10 v11 v12 v14 v15 v16 x st h Q => gx_one (i := .iload 13) (len := 2) (by decide +kernel) rfl⟩
theorem S_mo_odds_2 : (∀ (v0 v1 v2 v3 v4 v5 v6 v7 v8 v9 v10 v11 v12 v13 v14 v15 v16 : Value) (a0 : Int32) (a1 : Int32) (h : mr_h) (Q : Option Value → mr_h → Prop), mr_wp 170 160 [v0, v1, v2, v3, v4, v5, v6, v7, v8, v9, v10, v11, v12, v13, v14, v15, v16] [.int a1, .int a0] h Q = mr_run 130 [.int a0, .int a1] h (fun v h' => mr_wp 170 163 [v0, v1, v2, v3, v4, v5, v6, v7, v8, v9, v10, v11, v12, v13, v14, v15, v16] (v.toList ++ []) h' Q)) ∧
    (∀ (v0 v1 v2 v3 v4 v5 v6 v7 v8 v9 v10 v11 v12 v13 v14 v16 : Value) (w15 : Int32) (x : Int32) (st : List Value) (h : mr_h) (Q : Option Value → mr_h → Prop), mr_wp 170 163 [v0, v1, v2, v3, v4, v5, v6, v7, v8, v9, v10, v11, v12, v13, v14, .int w15, v16] (.int x :: st) h Q = mr_wp 170 165 [v0, v1, v2, v3, v4, v5, v6, v7, v8, v9, v10, v11, v12, v13, v14, .int w15, .int x] st h Q) ∧
    (∀ (v1 v2 v3 v4 v5 v6 v7 v8 v9 v10 v11 v12 v13 v14 v15 v16 : Value) (x : Nat) (st : List Value) (h : mr_h) (Q : Option Value → mr_h → Prop), mr_wp 170 165 [.ref x, v1, v2, v3, v4, v5, v6, v7, v8, v9, v10, v11, v12, v13, v14, v15, v16] st h Q = mr_wp 170 166 [.ref x, v1, v2, v3, v4, v5, v6, v7, v8, v9, v10, v11, v12, v13, v14, v15, v16] (.ref x :: st) h Q) ∧
    (∀ (v0 v1 v2 v3 v4 v5 v6 v7 v8 v9 v10 v11 v12 v13 v14 v15 v16 : Value) (a : Nat) (st : List Value) (h : mr_h) (Q : Option Value → mr_h → Prop), mr_wp 170 166 [v0, v1, v2, v3, v4, v5, v6, v7, v8, v9, v10, v11, v12, v13, v14, v15, v16] (.ref a :: st) h Q = mr_gf (h.1 a) 11 13 (fun v => mr_wp 170 169 [v0, v1, v2, v3, v4, v5, v6, v7, v8, v9, v10, v11, v12, v13, v14, v15, v16] (v :: st) h Q)) ∧
    (∀ (v0 v1 v2 v3 v4 v5 v6 v7 v8 v9 v10 v11 v12 v13 v14 v15 v16 : Value) (st : List Value) (h : mr_h) (Q : Option Value → mr_h → Prop), mr_wp 170 169 [v0, v1, v2, v3, v4, v5, v6, v7, v8, v9, v10, v11, v12, v13, v14, v15, v16] st h Q = mr_wp 170 170 [v0, v1, v2, v3, v4, v5, v6, v7, v8, v9, v10, v11, v12, v13, v14, v15, v16] (.int (0) :: st) h Q) ∧
    (∀ (v0 v1 v2 v3 v4 v5 v6 v7 v8 v9 v10 v11 v12 v13 v15 v16 : Value) (x : Int32) (st : List Value) (h : mr_h) (Q : Option Value → mr_h → Prop), mr_wp 170 170 [v0, v1, v2, v3, v4, v5, v6, v7, v8, v9, v10, v11, v12, v13, .int x, v15, v16] st h Q = mr_wp 170 172 [v0, v1, v2, v3, v4, v5, v6, v7, v8, v9, v10, v11, v12, v13, .int x, v15, v16] (.int x :: st) h Q) ∧
    (∀ (v0 v1 v2 v3 v4 v5 v6 v7 v8 v9 v10 v11 v12 v13 v14 v15 v16 : Value) (x : Int32) (y : Int32) (st : List Value) (h : mr_h) (Q : Option Value → mr_h → Prop), mr_wp 170 172 [v0, v1, v2, v3, v4, v5, v6, v7, v8, v9, v10, v11, v12, v13, v14, v15, v16] (.int y :: .int x :: st) h Q = mr_wp 170 173 [v0, v1, v2, v3, v4, v5, v6, v7, v8, v9, v10, v11, v12, v13, v14, v15, v16] (.int (x + y) :: st) h Q) ∧
    (∀ (v0 v1 v2 v3 v4 v5 v6 v7 v8 v9 v10 v11 v12 v13 v14 v15 v16 : Value) (x : Int32) (y : Nat) (st : List Value) (h : mr_h) (Q : Option Value → mr_h → Prop), mr_wp 170 173 [v0, v1, v2, v3, v4, v5, v6, v7, v8, v9, v10, v11, v12, v13, v14, v15, v16] (.int x :: .ref y :: st) h Q = mr_wp 170 174 [v0, v1, v2, v3, v4, v5, v6, v7, v8, v9, v10, v11, v12, v13, v14, v15, v16] (.int x :: .ref y :: .int x :: .ref y :: st) h Q) ∧
    (∀ (v0 v1 v2 v3 v4 v5 v6 v7 v8 v9 v10 v11 v12 v13 v14 v15 v16 : Value) (a : Nat) (x : Int32) (st : List Value) (h : mr_h) (Q : Option Value → mr_h → Prop), mr_wp 170 174 [v0, v1, v2, v3, v4, v5, v6, v7, v8, v9, v10, v11, v12, v13, v14, v15, v16] (.int x :: .ref a :: st) h Q = mr_ai (h.1 a) x (fun v => mr_wp 170 175 [v0, v1, v2, v3, v4, v5, v6, v7, v8, v9, v10, v11, v12, v13, v14, v15, v16] (.int v :: st) h Q)) ∧
    (∀ (v0 v1 v2 v3 v4 v5 v6 v7 v8 v9 v10 v11 v12 v13 v14 v15 : Value) (x : Int32) (st : List Value) (h : mr_h) (Q : Option Value → mr_h → Prop), mr_wp 170 175 [v0, v1, v2, v3, v4, v5, v6, v7, v8, v9, v10, v11, v12, v13, v14, v15, .int x] st h Q = mr_wp 170 177 [v0, v1, v2, v3, v4, v5, v6, v7, v8, v9, v10, v11, v12, v13, v14, v15, .int x] (.int x :: st) h Q) ∧
    (∀ (v0 v1 v2 v3 v4 v5 v6 v7 v8 v9 v10 v11 v12 v13 v14 v15 v16 : Value) (x : Int32) (st : List Value) (h : mr_h) (Q : Option Value → mr_h → Prop), mr_wp 170 177 [v0, v1, v2, v3, v4, v5, v6, v7, v8, v9, v10, v11, v12, v13, v14, v15, v16] (.int x :: st) h Q = if x = 0 then mr_wp 170 187 [v0, v1, v2, v3, v4, v5, v6, v7, v8, v9, v10, v11, v12, v13, v14, v15, v16] st h Q else mr_wp 170 180 [v0, v1, v2, v3, v4, v5, v6, v7, v8, v9, v10, v11, v12, v13, v14, v15, v16] st h Q) ∧
    (∀ (v0 v1 v2 v3 v4 v5 v6 v7 v8 v9 v10 v11 v12 v13 v14 v15 v16 : Value) (st : List Value) (h : mr_h) (Q : Option Value → mr_h → Prop), mr_wp 170 180 [v0, v1, v2, v3, v4, v5, v6, v7, v8, v9, v10, v11, v12, v13, v14, v15, v16] st h Q = mr_wp 170 181 [v0, v1, v2, v3, v4, v5, v6, v7, v8, v9, v10, v11, v12, v13, v14, v15, v16] (.int (1) :: st) h Q) ∧
    (∀ (v0 v1 v2 v3 v4 v5 v6 v7 v8 v9 v10 v11 v12 v13 v14 v16 : Value) (x : Int32) (st : List Value) (h : mr_h) (Q : Option Value → mr_h → Prop), mr_wp 170 181 [v0, v1, v2, v3, v4, v5, v6, v7, v8, v9, v10, v11, v12, v13, v14, .int x, v16] st h Q = mr_wp 170 183 [v0, v1, v2, v3, v4, v5, v6, v7, v8, v9, v10, v11, v12, v13, v14, .int x, v16] (.int x :: st) h Q) ∧
    (∀ (v0 v1 v2 v3 v4 v5 v6 v7 v8 v9 v10 v11 v12 v13 v14 v15 v16 : Value) (x : Int32) (y : Int32) (st : List Value) (h : mr_h) (Q : Option Value → mr_h → Prop), mr_wp 170 183 [v0, v1, v2, v3, v4, v5, v6, v7, v8, v9, v10, v11, v12, v13, v14, v15, v16] (.int y :: .int x :: st) h Q = mr_wp 170 184 [v0, v1, v2, v3, v4, v5, v6, v7, v8, v9, v10, v11, v12, v13, v14, v15, v16] (.int (x <<< (y &&& 31)) :: st) h Q) ∧
    (∀ (v0 v1 v2 v3 v4 v5 v6 v7 v8 v9 v10 v11 v12 v13 v14 v15 v16 : Value) (st : List Value) (h : mr_h) (Q : Option Value → mr_h → Prop), mr_wp 170 184 [v0, v1, v2, v3, v4, v5, v6, v7, v8, v9, v10, v11, v12, v13, v14, v15, v16] st h Q = mr_wp 170 188 [v0, v1, v2, v3, v4, v5, v6, v7, v8, v9, v10, v11, v12, v13, v14, v15, v16] st h Q) ∧
    (∀ (v0 v1 v2 v3 v4 v5 v6 v7 v8 v9 v10 v11 v12 v13 v14 v15 v16 : Value) (st : List Value) (h : mr_h) (Q : Option Value → mr_h → Prop), mr_wp 170 187 [v0, v1, v2, v3, v4, v5, v6, v7, v8, v9, v10, v11, v12, v13, v14, v15, v16] st h Q = mr_wp 170 188 [v0, v1, v2, v3, v4, v5, v6, v7, v8, v9, v10, v11, v12, v13, v14, v15, v16] (.int (0) :: st) h Q) ∧
    (∀ (v0 v1 v2 v3 v4 v5 v6 v7 v8 v9 v10 v11 v12 v13 v14 v15 v16 : Value) (x : Int32) (y : Int32) (st : List Value) (h : mr_h) (Q : Option Value → mr_h → Prop), mr_wp 170 188 [v0, v1, v2, v3, v4, v5, v6, v7, v8, v9, v10, v11, v12, v13, v14, v15, v16] (.int y :: .int x :: st) h Q = mr_wp 170 189 [v0, v1, v2, v3, v4, v5, v6, v7, v8, v9, v10, v11, v12, v13, v14, v15, v16] (.int (x ^^^ y) :: st) h Q) ∧
    (∀ (v0 v1 v2 v3 v4 v5 v6 v7 v8 v9 v10 v11 v12 v13 v14 v15 v16 : Value) (a : Nat) (x : Int32) (y : Int32) (st : List Value) (h : mr_h) (Q : Option Value → mr_h → Prop), mr_wp 170 189 [v0, v1, v2, v3, v4, v5, v6, v7, v8, v9, v10, v11, v12, v13, v14, v15, v16] (.int y :: .int x :: .ref a :: st) h Q = mr_si (h.1 a) x y (fun c => mr_wp 170 190 [v0, v1, v2, v3, v4, v5, v6, v7, v8, v9, v10, v11, v12, v13, v14, v15, v16] st (mr_up h a c) Q)) ∧
    (∀ (v0 v1 v2 v3 v4 v5 v6 v7 v8 v9 v10 v12 v13 v14 v15 v16 : Value) (x : Int64) (st : List Value) (h : mr_h) (Q : Option Value → mr_h → Prop), mr_wp 170 190 [v0, v1, v2, v3, v4, v5, v6, v7, v8, v9, v10, .long x, v12, v13, v14, v15, v16] st h Q = mr_wp 170 192 [v0, v1, v2, v3, v4, v5, v6, v7, v8, v9, v10, .long x, v12, v13, v14, v15, v16] (.long x :: st) h Q) ∧
    (∀ (v0 v1 v2 v3 v4 v5 v6 v7 v8 v9 v10 v11 v12 v13 v14 v15 : Value) (x : Int32) (st : List Value) (h : mr_h) (Q : Option Value → mr_h → Prop), mr_wp 170 192 [v0, v1, v2, v3, v4, v5, v6, v7, v8, v9, v10, v11, v12, v13, v14, v15, .int x] st h Q = mr_wp 170 194 [v0, v1, v2, v3, v4, v5, v6, v7, v8, v9, v10, v11, v12, v13, v14, v15, .int x] (.int x :: st) h Q) ∧
    (∀ (v0 v1 v2 v3 v4 v5 v6 v7 v8 v9 v10 v11 v12 v13 v14 v15 v16 : Value) (x : Int32) (st : List Value) (h : mr_h) (Q : Option Value → mr_h → Prop), mr_wp 170 194 [v0, v1, v2, v3, v4, v5, v6, v7, v8, v9, v10, v11, v12, v13, v14, v15, v16] (.int x :: st) h Q = if x = 0 then mr_wp 170 202 [v0, v1, v2, v3, v4, v5, v6, v7, v8, v9, v10, v11, v12, v13, v14, v15, v16] st h Q else mr_wp 170 197 [v0, v1, v2, v3, v4, v5, v6, v7, v8, v9, v10, v11, v12, v13, v14, v15, v16] st h Q) ∧
    (∀ (v0 v2 v3 v4 v5 v6 v7 v8 v9 v10 v11 v12 v13 v14 v15 v16 : Value) (x : Int32) (st : List Value) (h : mr_h) (Q : Option Value → mr_h → Prop), mr_wp 170 197 [v0, .int x, v2, v3, v4, v5, v6, v7, v8, v9, v10, v11, v12, v13, v14, v15, v16] st h Q = mr_wp 170 198 [v0, .int x, v2, v3, v4, v5, v6, v7, v8, v9, v10, v11, v12, v13, v14, v15, v16] (.int x :: st) h Q) ∧
    (∀ (v0 v1 v2 v3 v4 v5 v6 v7 v8 v9 v10 v11 v12 v13 v14 v15 v16 : Value) (x : Int32) (st : List Value) (h : mr_h) (Q : Option Value → mr_h → Prop), mr_wp 170 198 [v0, v1, v2, v3, v4, v5, v6, v7, v8, v9, v10, v11, v12, v13, v14, v15, v16] (.int x :: st) h Q = mr_wp 170 199 [v0, v1, v2, v3, v4, v5, v6, v7, v8, v9, v10, v11, v12, v13, v14, v15, v16] (.long x.toInt64 :: st) h Q) ∧
    (∀ (v0 v1 v2 v3 v4 v5 v6 v7 v8 v9 v10 v11 v12 v13 v14 v15 v16 : Value) (st : List Value) (h : mr_h) (Q : Option Value → mr_h → Prop), mr_wp 170 199 [v0, v1, v2, v3, v4, v5, v6, v7, v8, v9, v10, v11, v12, v13, v14, v15, v16] st h Q = mr_wp 170 207 [v0, v1, v2, v3, v4, v5, v6, v7, v8, v9, v10, v11, v12, v13, v14, v15, v16] st h Q) ∧
    (∀ (v0 v1 v2 v3 v4 v5 v6 v7 v8 v9 v10 v11 v12 v13 v14 v15 v16 : Value) (st : List Value) (h : mr_h) (Q : Option Value → mr_h → Prop), mr_wp 170 202 [v0, v1, v2, v3, v4, v5, v6, v7, v8, v9, v10, v11, v12, v13, v14, v15, v16] st h Q = mr_wp 170 204 [v0, v1, v2, v3, v4, v5, v6, v7, v8, v9, v10, v11, v12, v13, v14, v15, v16] (.int (10) :: st) h Q) ∧
    (∀ (v0 v2 v3 v4 v5 v6 v7 v8 v9 v10 v11 v12 v13 v14 v15 v16 : Value) (x : Int32) (st : List Value) (h : mr_h) (Q : Option Value → mr_h → Prop), mr_wp 170 204 [v0, .int x, v2, v3, v4, v5, v6, v7, v8, v9, v10, v11, v12, v13, v14, v15, v16] st h Q = mr_wp 170 205 [v0, .int x, v2, v3, v4, v5, v6, v7, v8, v9, v10, v11, v12, v13, v14, v15, v16] (.int x :: st) h Q) ∧
    (∀ (v0 v1 v2 v3 v4 v5 v6 v7 v8 v9 v10 v11 v12 v13 v14 v15 v16 : Value) (x : Int32) (y : Int32) (st : List Value) (h : mr_h) (Q : Option Value → mr_h → Prop), mr_wp 170 205 [v0, v1, v2, v3, v4, v5, v6, v7, v8, v9, v10, v11, v12, v13, v14, v15, v16] (.int y :: .int x :: st) h Q = mr_wp 170 206 [v0, v1, v2, v3, v4, v5, v6, v7, v8, v9, v10, v11, v12, v13, v14, v15, v16] (.int (x - y) :: st) h Q) ∧
    (∀ (v0 v1 v2 v3 v4 v5 v6 v7 v8 v9 v10 v11 v12 v13 v14 v15 v16 : Value) (x : Int32) (st : List Value) (h : mr_h) (Q : Option Value → mr_h → Prop), mr_wp 170 206 [v0, v1, v2, v3, v4, v5, v6, v7, v8, v9, v10, v11, v12, v13, v14, v15, v16] (.int x :: st) h Q = mr_wp 170 207 [v0, v1, v2, v3, v4, v5, v6, v7, v8, v9, v10, v11, v12, v13, v14, v15, v16] (.long x.toInt64 :: st) h Q) ∧
    (∀ (v0 v1 v2 v3 v4 v5 v6 v7 v8 v9 v10 v11 v12 v13 v14 v15 v16 : Value) (x : Int64) (y : Int64) (st : List Value) (h : mr_h) (Q : Option Value → mr_h → Prop), mr_wp 170 207 [v0, v1, v2, v3, v4, v5, v6, v7, v8, v9, v10, v11, v12, v13, v14, v15, v16] (.long y :: .long x :: st) h Q = mr_wp 170 208 [v0, v1, v2, v3, v4, v5, v6, v7, v8, v9, v10, v11, v12, v13, v14, v15, v16] (.long (x * y) :: st) h Q) ∧
    (∀ (v0 v1 v2 v3 v4 v5 v6 v7 v8 v9 v11 v12 v13 v14 v15 v16 : Value) (w10 : Int32) (x : Int64) (st : List Value) (h : mr_h) (Q : Option Value → mr_h → Prop), mr_wp 170 208 [v0, v1, v2, v3, v4, v5, v6, v7, v8, v9, .int w10, v11, v12, v13, v14, v15, v16] (.long x :: st) h Q = mr_wp 170 210 [v0, v1, v2, v3, v4, v5, v6, v7, v8, v9, .int w10, .long x, .null, v13, v14, v15, v16] st h Q) ∧
    (∀ (v0 v1 v2 v3 v4 v5 v6 v7 v8 v9 v10 v11 v14 v15 v16 : Value) (x : Int32) (st : List Value) (h : mr_h) (Q : Option Value → mr_h → Prop), mr_wp 170 210 [v0, v1, v2, v3, v4, v5, v6, v7, v8, v9, v10, v11, .null, .int x, v14, v15, v16] st h Q = mr_wp 170 213 [v0, v1, v2, v3, v4, v5, v6, v7, v8, v9, v10, v11, .null, .int (x + (1)), v14, v15, v16] st h Q) ∧
    (∀ (v0 v1 v2 v3 v4 v5 v6 v7 v8 v9 v10 v11 v12 v13 v16 : Value) (x : Int32) (w14 : Int32) (st : List Value) (h : mr_h) (Q : Option Value → mr_h → Prop), mr_wp 170 213 [v0, v1, v2, v3, v4, v5, v6, v7, v8, v9, v10, v11, v12, v13, .int w14, .int x, v16] st h Q = mr_wp 170 216 [v0, v1, v2, v3, v4, v5, v6, v7, v8, v9, v10, v11, v12, v13, .int w14, .int (x + (1)), v16] st h Q) ∧
    (∀ (v0 v1 v2 v3 v4 v5 v6 v7 v8 v9 v10 v11 v12 v13 v14 v15 v16 : Value) (st : List Value) (h : mr_h) (Q : Option Value → mr_h → Prop), mr_wp 170 216 [v0, v1, v2, v3, v4, v5, v6, v7, v8, v9, v10, v11, v12, v13, v14, v15, v16] st h Q = mr_wp 170 130 [v0, v1, v2, v3, v4, v5, v6, v7, v8, v9, v10, v11, v12, v13, v14, v15, v16] st h Q) ∧
    (∀ (v0 v1 v2 v3 v4 v5 v6 v7 v8 v9 v10 v11 v12 v15 v16 : Value) (x : Int32) (w13 : Int32) (st : List Value) (h : mr_h) (Q : Option Value → mr_h → Prop), mr_wp 170 219 [v0, v1, v2, v3, v4, v5, v6, v7, v8, v9, v10, v11, v12, .int w13, .int x, v15, v16] st h Q = mr_wp 170 222 [v0, v1, v2, v3, v4, v5, v6, v7, v8, v9, v10, v11, v12, .int w13, .int (x + (1)), v15, v16] st h Q) ∧
    (∀ (v0 v1 v2 v3 v4 v5 v6 v7 v8 v9 v10 v11 v12 v13 v14 v15 v16 : Value) (st : List Value) (h : mr_h) (Q : Option Value → mr_h → Prop), mr_wp 170 222 [v0, v1, v2, v3, v4, v5, v6, v7, v8, v9, v10, v11, v12, v13, v14, v15, v16] st h Q = mr_wp 170 118 [v0, v1, v2, v3, v4, v5, v6, v7, v8, v9, v10, v11, v12, v13, v14, v15, v16] st h Q) ∧
    (∀ (v1 v2 v3 v4 v5 v6 v7 v8 v9 v10 v11 v12 v13 v14 v15 v16 : Value) (x : Nat) (st : List Value) (h : mr_h) (Q : Option Value → mr_h → Prop), mr_wp 170 225 [.ref x, v1, v2, v3, v4, v5, v6, v7, v8, v9, v10, v11, v12, v13, v14, v15, v16] st h Q = mr_wp 170 226 [.ref x, v1, v2, v3, v4, v5, v6, v7, v8, v9, v10, v11, v12, v13, v14, v15, v16] (.ref x :: st) h Q) ∧
    (∀ (v1 v2 v3 v4 v5 v6 v7 v8 v9 v10 v11 v12 v13 v14 v15 v16 : Value) (x : Nat) (st : List Value) (h : mr_h) (Q : Option Value → mr_h → Prop), mr_wp 170 226 [.ref x, v1, v2, v3, v4, v5, v6, v7, v8, v9, v10, v11, v12, v13, v14, v15, v16] st h Q = mr_wp 170 227 [.ref x, v1, v2, v3, v4, v5, v6, v7, v8, v9, v10, v11, v12, v13, v14, v15, v16] (.ref x :: st) h Q) ∧
    (∀ (v0 v1 v2 v3 v4 v5 v6 v7 v8 v9 v10 v11 v12 v13 v14 v15 v16 : Value) (a : Nat) (st : List Value) (h : mr_h) (Q : Option Value → mr_h → Prop), mr_wp 170 227 [v0, v1, v2, v3, v4, v5, v6, v7, v8, v9, v10, v11, v12, v13, v14, v15, v16] (.ref a :: st) h Q = mr_gf (h.1 a) 11 13 (fun v => mr_wp 170 230 [v0, v1, v2, v3, v4, v5, v6, v7, v8, v9, v10, v11, v12, v13, v14, v15, v16] (v :: st) h Q)) ∧
    (∀ (v1 v2 v3 v4 v5 v6 v7 v8 v9 v10 v11 v12 v13 v14 v15 v16 : Value) (x : Nat) (st : List Value) (h : mr_h) (Q : Option Value → mr_h → Prop), mr_wp 170 230 [.ref x, v1, v2, v3, v4, v5, v6, v7, v8, v9, v10, v11, v12, v13, v14, v15, v16] st h Q = mr_wp 170 231 [.ref x, v1, v2, v3, v4, v5, v6, v7, v8, v9, v10, v11, v12, v13, v14, v15, v16] (.ref x :: st) h Q) ∧
    (∀ (v0 v1 v2 v3 v4 v5 v6 v7 v8 v9 v10 v11 v12 v13 v14 v15 v16 : Value) (a : Nat) (st : List Value) (h : mr_h) (Q : Option Value → mr_h → Prop), mr_wp 170 231 [v0, v1, v2, v3, v4, v5, v6, v7, v8, v9, v10, v11, v12, v13, v14, v15, v16] (.ref a :: st) h Q = mr_gf (h.1 a) 11 23 (fun v => mr_wp 170 234 [v0, v1, v2, v3, v4, v5, v6, v7, v8, v9, v10, v11, v12, v13, v14, v15, v16] (v :: st) h Q)) :=
  ⟨fun v0 v1 v2 v3 v4 v5 v6 v7 v8 v9 v10 v11 v12 v13 v14 v15 v16 a0 a1 h Q => gx_stat (x := 116) (t := 130) (n := 2) (by decide +kernel) (by decide +kernel) (by decide) (by decide +kernel) rfl (Or.inl (Nat.le_of_ble_eq_true rfl)) (by show _ ≤ mr_mxl 130; rw [show mr_mxl 130 = 2 from by decide +kernel]; exact Nat.le_of_ble_eq_true rfl),
   fun v0 v1 v2 v3 v4 v5 v6 v7 v8 v9 v10 v11 v12 v13 v14 v16 w15 x st h Q => gx_one (i := .istore 16) (len := 2) (by decide +kernel) rfl,
   fun v1 v2 v3 v4 v5 v6 v7 v8 v9 v10 v11 v12 v13 v14 v15 v16 x st h Q => gx_one (i := .aload_n 0) (len := 1) (by decide +kernel) rfl,
   fun v0 v1 v2 v3 v4 v5 v6 v7 v8 v9 v10 v11 v12 v13 v14 v15 v16 a st h Q => gx_get (x := 19) (by decide +kernel) (by decide +kernel),
   fun v0 v1 v2 v3 v4 v5 v6 v7 v8 v9 v10 v11 v12 v13 v14 v15 v16 st h Q => gx_one (i := .iconst 0) (len := 1) (by decide +kernel) rfl,
   fun v0 v1 v2 v3 v4 v5 v6 v7 v8 v9 v10 v11 v12 v13 v15 v16 x st h Q => gx_one (i := .iload 14) (len := 2) (by decide +kernel) rfl,
   fun v0 v1 v2 v3 v4 v5 v6 v7 v8 v9 v10 v11 v12 v13 v14 v15 v16 x y st h Q => gx_one (i := .iadd) (len := 1) (by decide +kernel) rfl,
   fun v0 v1 v2 v3 v4 v5 v6 v7 v8 v9 v10 v11 v12 v13 v14 v15 v16 x y st h Q => gx_one (i := .dup2) (len := 1) (by decide +kernel) rfl,
   fun v0 v1 v2 v3 v4 v5 v6 v7 v8 v9 v10 v11 v12 v13 v14 v15 v16 a x st h Q => gx_iald (by decide +kernel),
   fun v0 v1 v2 v3 v4 v5 v6 v7 v8 v9 v10 v11 v12 v13 v14 v15 x st h Q => gx_one (i := .iload 16) (len := 2) (by decide +kernel) rfl,
   fun v0 v1 v2 v3 v4 v5 v6 v7 v8 v9 v10 v11 v12 v13 v14 v15 v16 x st h Q => gx_br (i := .ifCond .eq 10) (len := 3) (c := .eq) (by decide +kernel) rfl rfl,
   fun v0 v1 v2 v3 v4 v5 v6 v7 v8 v9 v10 v11 v12 v13 v14 v15 v16 st h Q => gx_one (i := .iconst 1) (len := 1) (by decide +kernel) rfl,
   fun v0 v1 v2 v3 v4 v5 v6 v7 v8 v9 v10 v11 v12 v13 v14 v16 x st h Q => gx_one (i := .iload 15) (len := 2) (by decide +kernel) rfl,
   fun v0 v1 v2 v3 v4 v5 v6 v7 v8 v9 v10 v11 v12 v13 v14 v15 v16 x y st h Q => gx_one (i := .ishl) (len := 1) (by decide +kernel) rfl,
   fun v0 v1 v2 v3 v4 v5 v6 v7 v8 v9 v10 v11 v12 v13 v14 v15 v16 st h Q => gx_one (i := .goto 4) (len := 3) (by decide +kernel) rfl,
   fun v0 v1 v2 v3 v4 v5 v6 v7 v8 v9 v10 v11 v12 v13 v14 v15 v16 st h Q => gx_one (i := .iconst 0) (len := 1) (by decide +kernel) rfl,
   fun v0 v1 v2 v3 v4 v5 v6 v7 v8 v9 v10 v11 v12 v13 v14 v15 v16 x y st h Q => gx_one (i := .ixor) (len := 1) (by decide +kernel) rfl,
   fun v0 v1 v2 v3 v4 v5 v6 v7 v8 v9 v10 v11 v12 v13 v14 v15 v16 a x y st h Q => gx_iast (by decide +kernel),
   fun v0 v1 v2 v3 v4 v5 v6 v7 v8 v9 v10 v12 v13 v14 v15 v16 x st h Q => gx_one (i := .lload 11) (len := 2) (by decide +kernel) rfl,
   fun v0 v1 v2 v3 v4 v5 v6 v7 v8 v9 v10 v11 v12 v13 v14 v15 x st h Q => gx_one (i := .iload 16) (len := 2) (by decide +kernel) rfl,
   fun v0 v1 v2 v3 v4 v5 v6 v7 v8 v9 v10 v11 v12 v13 v14 v15 v16 x st h Q => gx_br (i := .ifCond .eq 8) (len := 3) (c := .eq) (by decide +kernel) rfl rfl,
   fun v0 v2 v3 v4 v5 v6 v7 v8 v9 v10 v11 v12 v13 v14 v15 v16 x st h Q => gx_one (i := .iload_n 1) (len := 1) (by decide +kernel) rfl,
   fun v0 v1 v2 v3 v4 v5 v6 v7 v8 v9 v10 v11 v12 v13 v14 v15 v16 x st h Q => gx_one (i := .i2l) (len := 1) (by decide +kernel) rfl,
   fun v0 v1 v2 v3 v4 v5 v6 v7 v8 v9 v10 v11 v12 v13 v14 v15 v16 st h Q => gx_one (i := .goto 8) (len := 3) (by decide +kernel) rfl,
   fun v0 v1 v2 v3 v4 v5 v6 v7 v8 v9 v10 v11 v12 v13 v14 v15 v16 st h Q => gx_one (i := .bipush 10) (len := 2) (by decide +kernel) rfl,
   fun v0 v2 v3 v4 v5 v6 v7 v8 v9 v10 v11 v12 v13 v14 v15 v16 x st h Q => gx_one (i := .iload_n 1) (len := 1) (by decide +kernel) rfl,
   fun v0 v1 v2 v3 v4 v5 v6 v7 v8 v9 v10 v11 v12 v13 v14 v15 v16 x y st h Q => gx_one (i := .isub) (len := 1) (by decide +kernel) rfl,
   fun v0 v1 v2 v3 v4 v5 v6 v7 v8 v9 v10 v11 v12 v13 v14 v15 v16 x st h Q => gx_one (i := .i2l) (len := 1) (by decide +kernel) rfl,
   fun v0 v1 v2 v3 v4 v5 v6 v7 v8 v9 v10 v11 v12 v13 v14 v15 v16 x y st h Q => gx_one (i := .lmul) (len := 1) (by decide +kernel) rfl,
   fun v0 v1 v2 v3 v4 v5 v6 v7 v8 v9 v11 v12 v13 v14 v15 v16 w10 x st h Q => gx_one (i := .lstore 11) (len := 2) (by decide +kernel) rfl,
   fun v0 v1 v2 v3 v4 v5 v6 v7 v8 v9 v10 v11 v14 v15 v16 x st h Q => gx_one (i := .iinc 13 1) (len := 3) (by decide +kernel) rfl,
   fun v0 v1 v2 v3 v4 v5 v6 v7 v8 v9 v10 v11 v12 v13 v16 x w14 st h Q => gx_one (i := .iinc 15 1) (len := 3) (by decide +kernel) rfl,
   fun v0 v1 v2 v3 v4 v5 v6 v7 v8 v9 v10 v11 v12 v13 v14 v15 v16 st h Q => gx_one (i := .goto (-86)) (len := 3) (by decide +kernel) rfl,
   fun v0 v1 v2 v3 v4 v5 v6 v7 v8 v9 v10 v11 v12 v15 v16 x w13 st h Q => gx_one (i := .iinc 14 1) (len := 3) (by decide +kernel) rfl,
   fun v0 v1 v2 v3 v4 v5 v6 v7 v8 v9 v10 v11 v12 v13 v14 v15 v16 st h Q => gx_one (i := .goto (-104)) (len := 3) (by decide +kernel) rfl,
   fun v1 v2 v3 v4 v5 v6 v7 v8 v9 v10 v11 v12 v13 v14 v15 v16 x st h Q => gx_one (i := .aload_n 0) (len := 1) (by decide +kernel) rfl,
   fun v1 v2 v3 v4 v5 v6 v7 v8 v9 v10 v11 v12 v13 v14 v15 v16 x st h Q => gx_one (i := .aload_n 0) (len := 1) (by decide +kernel) rfl,
   fun v0 v1 v2 v3 v4 v5 v6 v7 v8 v9 v10 v11 v12 v13 v14 v15 v16 a st h Q => gx_get (x := 19) (by decide +kernel) (by decide +kernel),
   fun v1 v2 v3 v4 v5 v6 v7 v8 v9 v10 v11 v12 v13 v14 v15 v16 x st h Q => gx_one (i := .aload_n 0) (len := 1) (by decide +kernel) rfl,
   fun v0 v1 v2 v3 v4 v5 v6 v7 v8 v9 v10 v11 v12 v13 v14 v15 v16 a st h Q => gx_get (x := 44) (by decide +kernel) (by decide +kernel)⟩
theorem S_mo_odds_3 : (∀ (v0 v1 v2 v3 v4 v5 v6 v7 v8 v9 v10 v11 v12 v13 v14 v15 v16 : Value) (a0 : Nat) (a1 : Nat) (o : Nat) (h : mr_h) (Q : Option Value → mr_h → Prop), mr_wp 170 234 [v0, v1, v2, v3, v4, v5, v6, v7, v8, v9, v10, v11, v12, v13, v14, v15, v16] [.ref a1, .ref a0, .ref o] h Q = mr_rc (h.1 o) 11 (mr_run 133 [.ref o, .ref a0, .ref a1] h (fun v h' => mr_wp 170 237 [v0, v1, v2, v3, v4, v5, v6, v7, v8, v9, v10, v11, v12, v13, v14, v15, v16] (v.toList ++ []) h' Q))) ∧
    (∀ (v0 v1 v2 v3 v4 v5 v7 v8 v9 v10 v11 v12 v13 v14 v15 v16 : Value) (x : Int64) (st : List Value) (h : mr_h) (Q : Option Value → mr_h → Prop), mr_wp 170 237 [v0, v1, v2, v3, v4, v5, .long x, v7, v8, v9, v10, v11, v12, v13, v14, v15, v16] st h Q = mr_wp 170 239 [v0, v1, v2, v3, v4, v5, .long x, v7, v8, v9, v10, v11, v12, v13, v14, v15, v16] (.long x :: st) h Q) ∧
    (∀ (v1 v2 v3 v4 v5 v6 v7 v8 v9 v10 v11 v12 v13 v14 v15 v16 : Value) (x : Nat) (st : List Value) (h : mr_h) (Q : Option Value → mr_h → Prop), mr_wp 170 239 [.ref x, v1, v2, v3, v4, v5, v6, v7, v8, v9, v10, v11, v12, v13, v14, v15, v16] st h Q = mr_wp 170 240 [.ref x, v1, v2, v3, v4, v5, v6, v7, v8, v9, v10, v11, v12, v13, v14, v15, v16] (.ref x :: st) h Q) ∧
    (∀ (v0 v1 v2 v3 v4 v5 v6 v7 v8 v9 v10 v11 v12 v13 v14 v15 v16 : Value) (a : Nat) (st : List Value) (h : mr_h) (Q : Option Value → mr_h → Prop), mr_wp 170 240 [v0, v1, v2, v3, v4, v5, v6, v7, v8, v9, v10, v11, v12, v13, v14, v15, v16] (.ref a :: st) h Q = mr_gf (h.1 a) 11 23 (fun v => mr_wp 170 243 [v0, v1, v2, v3, v4, v5, v6, v7, v8, v9, v10, v11, v12, v13, v14, v15, v16] (v :: st) h Q)) ∧
    (∀ (v0 v1 v3 v4 v5 v6 v7 v8 v9 v10 v11 v12 v13 v14 v15 v16 : Value) (x : Int32) (st : List Value) (h : mr_h) (Q : Option Value → mr_h → Prop), mr_wp 170 243 [v0, v1, .int x, v3, v4, v5, v6, v7, v8, v9, v10, v11, v12, v13, v14, v15, v16] st h Q = mr_wp 170 244 [v0, v1, .int x, v3, v4, v5, v6, v7, v8, v9, v10, v11, v12, v13, v14, v15, v16] (.int x :: st) h Q) ∧
    (∀ (v0 v1 v2 v3 v4 v5 v6 v7 v8 v9 v10 v11 v12 v13 v14 v15 v16 : Value) (a : Nat) (x : Int32) (st : List Value) (h : mr_h) (Q : Option Value → mr_h → Prop), mr_wp 170 244 [v0, v1, v2, v3, v4, v5, v6, v7, v8, v9, v10, v11, v12, v13, v14, v15, v16] (.int x :: .ref a :: st) h Q = mr_ai (h.1 a) x (fun v => mr_wp 170 245 [v0, v1, v2, v3, v4, v5, v6, v7, v8, v9, v10, v11, v12, v13, v14, v15, v16] (.int v :: st) h Q)) ∧
    (∀ (v0 v1 v2 v4 v5 v6 v7 v8 v9 v10 v11 v12 v13 v14 v15 v16 : Value) (x : Int32) (st : List Value) (h : mr_h) (Q : Option Value → mr_h → Prop), mr_wp 170 245 [v0, v1, v2, .int x, v4, v5, v6, v7, v8, v9, v10, v11, v12, v13, v14, v15, v16] st h Q = mr_wp 170 246 [v0, v1, v2, .int x, v4, v5, v6, v7, v8, v9, v10, v11, v12, v13, v14, v15, v16] (.int x :: st) h Q) ∧
    (∀ (v0 v1 v2 v3 v4 v5 v6 v7 v8 v9 v10 v11 v12 v13 v14 v15 v16 : Value) (a0 : Int32) (a1 : Int32) (r0 : Value) (h : mr_h) (Q : Option Value → mr_h → Prop), mr_wp 170 246 [v0, v1, v2, v3, v4, v5, v6, v7, v8, v9, v10, v11, v12, v13, v14, v15, v16] [.int a1, .int a0, r0] h Q = mr_run 130 [.int a0, .int a1] h (fun v h' => mr_wp 170 249 [v0, v1, v2, v3, v4, v5, v6, v7, v8, v9, v10, v11, v12, v13, v14, v15, v16] (v.toList ++ [r0]) h' Q)) ∧
    (∀ (v0 v1 v2 v3 v4 v5 v6 v7 v8 v9 v10 v11 v12 v13 v14 v15 v16 : Value) (x : Int32) (st : List Value) (h : mr_h) (Q : Option Value → mr_h → Prop), mr_wp 170 249 [v0, v1, v2, v3, v4, v5, v6, v7, v8, v9, v10, v11, v12, v13, v14, v15, v16] (.int x :: st) h Q = if x = 0 then mr_wp 170 257 [v0, v1, v2, v3, v4, v5, v6, v7, v8, v9, v10, v11, v12, v13, v14, v15, v16] st h Q else mr_wp 170 252 [v0, v1, v2, v3, v4, v5, v6, v7, v8, v9, v10, v11, v12, v13, v14, v15, v16] st h Q) ∧
    (∀ (v0 v1 v2 v3 v4 v5 v6 v7 v8 v9 v10 v12 v13 v14 v15 v16 : Value) (x : Int64) (st : List Value) (h : mr_h) (Q : Option Value → mr_h → Prop), mr_wp 170 252 [v0, v1, v2, v3, v4, v5, v6, v7, v8, v9, v10, .long x, v12, v13, v14, v15, v16] st h Q = mr_wp 170 254 [v0, v1, v2, v3, v4, v5, v6, v7, v8, v9, v10, .long x, v12, v13, v14, v15, v16] (.long x :: st) h Q) ∧
    (∀ (v0 v1 v2 v3 v4 v5 v6 v7 v8 v9 v10 v11 v12 v13 v14 v15 v16 : Value) (st : List Value) (h : mr_h) (Q : Option Value → mr_h → Prop), mr_wp 170 254 [v0, v1, v2, v3, v4, v5, v6, v7, v8, v9, v10, v11, v12, v13, v14, v15, v16] st h Q = mr_wp 170 258 [v0, v1, v2, v3, v4, v5, v6, v7, v8, v9, v10, v11, v12, v13, v14, v15, v16] st h Q) ∧
    (∀ (v0 v1 v2 v3 v4 v5 v6 v7 v8 v9 v10 v11 v12 v13 v14 v15 v16 : Value) (st : List Value) (h : mr_h) (Q : Option Value → mr_h → Prop), mr_wp 170 257 [v0, v1, v2, v3, v4, v5, v6, v7, v8, v9, v10, v11, v12, v13, v14, v15, v16] st h Q = mr_wp 170 258 [v0, v1, v2, v3, v4, v5, v6, v7, v8, v9, v10, v11, v12, v13, v14, v15, v16] (.long (0) :: st) h Q) ∧
    (∀ (v0 v1 v2 v3 v4 v5 v6 v7 v8 v9 v10 v11 v12 v13 v14 v15 v16 : Value) (x : Int64) (y : Int64) (st : List Value) (h : mr_h) (Q : Option Value → mr_h → Prop), mr_wp 170 258 [v0, v1, v2, v3, v4, v5, v6, v7, v8, v9, v10, v11, v12, v13, v14, v15, v16] (.long y :: .long x :: st) h Q = mr_wp 170 259 [v0, v1, v2, v3, v4, v5, v6, v7, v8, v9, v10, v11, v12, v13, v14, v15, v16] (.long (x + y) :: st) h Q) ∧
    (∀ (v0 v1 v2 v3 v4 v6 v7 v8 v9 v10 v11 v12 v13 v14 v15 v16 : Value) (w5 : Int32) (x : Int64) (st : List Value) (h : mr_h) (Q : Option Value → mr_h → Prop), mr_wp 170 259 [v0, v1, v2, v3, v4, .int w5, v6, v7, v8, v9, v10, v11, v12, v13, v14, v15, v16] (.long x :: st) h Q = mr_wp 170 261 [v0, v1, v2, v3, v4, .int w5, .long x, .null, v8, v9, v10, v11, v12, v13, v14, v15, v16] st h Q) ∧
    (∀ (v0 v1 v2 v3 v4 v5 v6 v7 v8 v11 v12 v13 v14 v15 v16 : Value) (x : Int32) (st : List Value) (h : mr_h) (Q : Option Value → mr_h → Prop), mr_wp 170 261 [v0, v1, v2, v3, v4, v5, v6, v7, v8, .null, .int x, v11, v12, v13, v14, v15, v16] st h Q = mr_wp 170 264 [v0, v1, v2, v3, v4, v5, v6, v7, v8, .null, .int (x + (1)), v11, v12, v13, v14, v15, v16] st h Q) ∧
    (∀ (v0 v1 v2 v3 v4 v5 v6 v7 v8 v9 v10 v11 v12 v13 v14 v15 v16 : Value) (st : List Value) (h : mr_h) (Q : Option Value → mr_h → Prop), mr_wp 170 264 [v0, v1, v2, v3, v4, v5, v6, v7, v8, v9, v10, v11, v12, v13, v14, v15, v16] st h Q = mr_wp 170 96 [v0, v1, v2, v3, v4, v5, v6, v7, v8, v9, v10, v11, v12, v13, v14, v15, v16] st h Q) ∧
    (∀ (v0 v1 v2 v3 v4 v5 v7 v8 v9 v10 v11 v12 v13 v14 v15 v16 : Value) (x : Int64) (st : List Value) (h : mr_h) (Q : Option Value → mr_h → Prop), mr_wp 170 267 [v0, v1, v2, v3, v4, v5, .long x, v7, v8, v9, v10, v11, v12, v13, v14, v15, v16] st h Q = mr_wp 170 269 [v0, v1, v2, v3, v4, v5, .long x, v7, v8, v9, v10, v11, v12, v13, v14, v15, v16] (.long x :: st) h Q) ∧
    (∀ (v0 v1 v2 v3 v4 v5 v6 v7 v9 v10 v11 v12 v13 v14 v15 v16 : Value) (x : Int64) (st : List Value) (h : mr_h) (Q : Option Value → mr_h → Prop), mr_wp 170 269 [v0, v1, v2, v3, v4, v5, v6, v7, .long x, v9, v10, v11, v12, v13, v14, v15, v16] st h Q = mr_wp 170 271 [v0, v1, v2, v3, v4, v5, v6, v7, .long x, v9, v10, v11, v12, v13, v14, v15, v16] (.long x :: st) h Q) ∧
    (∀ (v0 v1 v2 v3 v4 v5 v6 v7 v8 v9 v10 v11 v12 v13 v14 v15 v16 : Value) (a0 : Int64) (a1 : Int64) (h : mr_h) (Q : Option Value → mr_h → Prop), mr_wp 170 271 [v0, v1, v2, v3, v4, v5, v6, v7, v8, v9, v10, v11, v12, v13, v14, v15, v16] [.long a1, .long a0] h Q = mr_run 171 [.long a0, .long a1] h (fun v h' => mr_wp 170 274 [v0, v1, v2, v3, v4, v5, v6, v7, v8, v9, v10, v11, v12, v13, v14, v15, v16] (v.toList ++ []) h' Q)) ∧
    (∀ (v0 v1 v2 v3 v4 v5 v6 v7 v8 v10 v11 v12 v13 v14 v15 v16 : Value) (x : Int64) (st : List Value) (h : mr_h) (Q : Option Value → mr_h → Prop), mr_wp 170 274 [v0, v1, v2, v3, v4, v5, v6, v7, v8, .null, v10, v11, v12, v13, v14, v15, v16] (.long x :: st) h Q = mr_wp 170 276 [v0, v1, v2, v3, v4, v5, v6, v7, v8, .null, .long x, .null, v12, v13, v14, v15, v16] st h Q) ∧
    (∀ (v0 v1 v2 v3 v5 v6 v7 v8 v9 v10 v11 v12 v13 v14 v15 v16 : Value) (x : Int32) (st : List Value) (h : mr_h) (Q : Option Value → mr_h → Prop), mr_wp 170 276 [v0, v1, v2, v3, .int x, v5, v6, v7, v8, v9, v10, v11, v12, v13, v14, v15, v16] st h Q = mr_wp 170 278 [v0, v1, v2, v3, .int x, v5, v6, v7, v8, v9, v10, v11, v12, v13, v14, v15, v16] (.int x :: st) h Q) ∧
    (∀ (v0 v1 v2 v3 v4 v5 v6 v7 v8 v9 v10 v11 v12 v13 v14 v15 v16 : Value) (x : Int32) (st : List Value) (h : mr_h) (Q : Option Value → mr_h → Prop), mr_wp 170 278 [v0, v1, v2, v3, v4, v5, v6, v7, v8, v9, v10, v11, v12, v13, v14, v15, v16] (.int x :: st) h Q = if ¬ x = 0 then mr_wp 170 289 [v0, v1, v2, v3, v4, v5, v6, v7, v8, v9, v10, v11, v12, v13, v14, v15, v16] st h Q else mr_wp 170 281 [v0, v1, v2, v3, v4, v5, v6, v7, v8, v9, v10, v11, v12, v13, v14, v15, v16] st h Q) ∧
    (∀ (v0 v1 v2 v3 v4 v5 v7 v8 v9 v10 v11 v12 v13 v14 v15 v16 : Value) (x : Int64) (st : List Value) (h : mr_h) (Q : Option Value → mr_h → Prop), mr_wp 170 281 [v0, v1, v2, v3, v4, v5, .long x, v7, v8, v9, v10, v11, v12, v13, v14, v15, v16] st h Q = mr_wp 170 283 [v0, v1, v2, v3, v4, v5, .long x, v7, v8, v9, v10, v11, v12, v13, v14, v15, v16] (.long x :: st) h Q) ∧
    (∀ (v0 v1 v2 v3 v4 v5 v6 v7 v8 v9 v11 v12 v13 v14 v15 v16 : Value) (x : Int64) (st : List Value) (h : mr_h) (Q : Option Value → mr_h → Prop), mr_wp 170 283 [v0, v1, v2, v3, v4, v5, v6, v7, v8, v9, .long x, v11, v12, v13, v14, v15, v16] st h Q = mr_wp 170 285 [v0, v1, v2, v3, v4, v5, v6, v7, v8, v9, .long x, v11, v12, v13, v14, v15, v16] (.long x :: st) h Q) ∧
    (∀ (v0 v1 v2 v3 v4 v5 v6 v7 v8 v9 v10 v11 v12 v13 v14 v15 v16 : Value) (x : Int64) (y : Int64) (st : List Value) (h : mr_h) (Q : Option Value → mr_h → Prop) (hv : ¬ y = 0), mr_wp 170 285 [v0, v1, v2, v3, v4, v5, v6, v7, v8, v9, v10, v11, v12, v13, v14, v15, v16] (.long y :: .long x :: st) h Q = mr_wp 170 286 [v0, v1, v2, v3, v4, v5, v6, v7, v8, v9, v10, v11, v12, v13, v14, v15, v16] (.long (x / y) :: st) h Q) ∧
    (∀ (v0 v1 v2 v3 v4 v5 v6 v7 v8 v9 v10 v11 v12 v13 v14 v15 v16 : Value) (st : List Value) (h : mr_h) (Q : Option Value → mr_h → Prop), mr_wp 170 286 [v0, v1, v2, v3, v4, v5, v6, v7, v8, v9, v10, v11, v12, v13, v14, v15, v16] st h Q = mr_wp 170 294 [v0, v1, v2, v3, v4, v5, v6, v7, v8, v9, v10, v11, v12, v13, v14, v15, v16] st h Q) ∧
    (∀ (v0 v1 v2 v3 v4 v5 v6 v7 v9 v10 v11 v12 v13 v14 v15 v16 : Value) (x : Int64) (st : List Value) (h : mr_h) (Q : Option Value → mr_h → Prop), mr_wp 170 289 [v0, v1, v2, v3, v4, v5, v6, v7, .long x, v9, v10, v11, v12, v13, v14, v15, v16] st h Q = mr_wp 170 291 [v0, v1, v2, v3, v4, v5, v6, v7, .long x, v9, v10, v11, v12, v13, v14, v15, v16] (.long x :: st) h Q) ∧
    (∀ (v0 v1 v2 v3 v4 v5 v6 v7 v8 v9 v11 v12 v13 v14 v15 v16 : Value) (x : Int64) (st : List Value) (h : mr_h) (Q : Option Value → mr_h → Prop), mr_wp 170 291 [v0, v1, v2, v3, v4, v5, v6, v7, v8, v9, .long x, v11, v12, v13, v14, v15, v16] st h Q = mr_wp 170 293 [v0, v1, v2, v3, v4, v5, v6, v7, v8, v9, .long x, v11, v12, v13, v14, v15, v16] (.long x :: st) h Q) ∧
    (∀ (v0 v1 v2 v3 v4 v5 v6 v7 v8 v9 v10 v11 v12 v13 v14 v15 v16 : Value) (x : Int64) (y : Int64) (st : List Value) (h : mr_h) (Q : Option Value → mr_h → Prop) (hv : ¬ y = 0), mr_wp 170 293 [v0, v1, v2, v3, v4, v5, v6, v7, v8, v9, v10, v11, v12, v13, v14, v15, v16] (.long y :: .long x :: st) h Q = mr_wp 170 294 [v0, v1, v2, v3, v4, v5, v6, v7, v8, v9, v10, v11, v12, v13, v14, v15, v16] (.long (x / y) :: st) h Q) ∧
    (∀ (v0 v1 v2 v3 v4 v5 v6 v7 v8 v9 v10 v11 v12 v13 v14 v15 v16 : Value) (x : Int64) (st : List Value) (h : mr_h) (Q : Option Value → mr_h → Prop), mr_wp 170 294 [v0, v1, v2, v3, v4, v5, v6, v7, v8, v9, v10, v11, v12, v13, v14, v15, v16] (.long x :: st) h Q = mr_wp 170 295 [v0, v1, v2, v3, v4, v5, v6, v7, v8, v9, v10, v11, v12, v13, v14, v15, v16] (.int x.toInt32 :: st) h Q) ∧
    (∀ (v0 v1 v2 v3 v4 v5 v6 v7 v8 v9 v10 v11 v12 v13 v14 v15 v16 : Value) (x : Int32) (h : mr_h) (Q : Option Value → mr_h → Prop), mr_wp 170 295 [v0, v1, v2, v3, v4, v5, v6, v7, v8, v9, v10, v11, v12, v13, v14, v15, v16] [.int x] h Q = Q (some (.int x)) h) :=
  ⟨fun v0 v1 v2 v3 v4 v5 v6 v7 v8 v9 v10 v11 v12 v13 v14 v15 v16 a0 a1 o h Q => gx_virt (x := 158) (n := 2) (by decide +kernel) (by decide +kernel) rfl (Or.inl (Nat.le_of_ble_eq_true rfl)) (by show _ ≤ mr_mxl 133; rw [show mr_mxl 133 = 5 from by decide +kernel]; exact Nat.le_of_ble_eq_true rfl) (by decide +kernel),
   fun v0 v1 v2 v3 v4 v5 v7 v8 v9 v10 v11 v12 v13 v14 v15 v16 x st h Q => gx_one (i := .lload 6) (len := 2) (by decide +kernel) rfl,
   fun v1 v2 v3 v4 v5 v6 v7 v8 v9 v10 v11 v12 v13 v14 v15 v16 x st h Q => gx_one (i := .aload_n 0) (len := 1) (by decide +kernel) rfl,
   fun v0 v1 v2 v3 v4 v5 v6 v7 v8 v9 v10 v11 v12 v13 v14 v15 v16 a st h Q => gx_get (x := 44) (by decide +kernel) (by decide +kernel),
   fun v0 v1 v3 v4 v5 v6 v7 v8 v9 v10 v11 v12 v13 v14 v15 v16 x st h Q => gx_one (i := .iload_n 2) (len := 1) (by decide +kernel) rfl,
   fun v0 v1 v2 v3 v4 v5 v6 v7 v8 v9 v10 v11 v12 v13 v14 v15 v16 a x st h Q => gx_iald (by decide +kernel),
   fun v0 v1 v2 v4 v5 v6 v7 v8 v9 v10 v11 v12 v13 v14 v15 v16 x st h Q => gx_one (i := .iload_n 3) (len := 1) (by decide +kernel) rfl,
   fun v0 v1 v2 v3 v4 v5 v6 v7 v8 v9 v10 v11 v12 v13 v14 v15 v16 a0 a1 r0 h Q => gx_stat (x := 116) (t := 130) (n := 2) (by decide +kernel) (by decide +kernel) (by decide) (by decide +kernel) rfl (Or.inl (Nat.le_of_ble_eq_true rfl)) (by show _ ≤ mr_mxl 130; rw [show mr_mxl 130 = 2 from by decide +kernel]; exact Nat.le_of_ble_eq_true rfl),
   fun v0 v1 v2 v3 v4 v5 v6 v7 v8 v9 v10 v11 v12 v13 v14 v15 v16 x st h Q => gx_br (i := .ifCond .eq 8) (len := 3) (c := .eq) (by decide +kernel) rfl rfl,
   fun v0 v1 v2 v3 v4 v5 v6 v7 v8 v9 v10 v12 v13 v14 v15 v16 x st h Q => gx_one (i := .lload 11) (len := 2) (by decide +kernel) rfl,
   fun v0 v1 v2 v3 v4 v5 v6 v7 v8 v9 v10 v11 v12 v13 v14 v15 v16 st h Q => gx_one (i := .goto 4) (len := 3) (by decide +kernel) rfl,
   fun v0 v1 v2 v3 v4 v5 v6 v7 v8 v9 v10 v11 v12 v13 v14 v15 v16 st h Q => gx_one (i := .lconst 0) (len := 1) (by decide +kernel) rfl,
   fun v0 v1 v2 v3 v4 v5 v6 v7 v8 v9 v10 v11 v12 v13 v14 v15 v16 x y st h Q => gx_one (i := .ladd) (len := 1) (by decide +kernel) rfl,
   fun v0 v1 v2 v3 v4 v6 v7 v8 v9 v10 v11 v12 v13 v14 v15 v16 w5 x st h Q => gx_one (i := .lstore 6) (len := 2) (by decide +kernel) rfl,
   fun v0 v1 v2 v3 v4 v5 v6 v7 v8 v11 v12 v13 v14 v15 v16 x st h Q => gx_one (i := .iinc 10 1) (len := 3) (by decide +kernel) rfl,
   fun v0 v1 v2 v3 v4 v5 v6 v7 v8 v9 v10 v11 v12 v13 v14 v15 v16 st h Q => gx_one (i := .goto (-168)) (len := 3) (by decide +kernel) rfl,
   fun v0 v1 v2 v3 v4 v5 v7 v8 v9 v10 v11 v12 v13 v14 v15 v16 x st h Q => gx_one (i := .lload 6) (len := 2) (by decide +kernel) rfl,
   fun v0 v1 v2 v3 v4 v5 v6 v7 v9 v10 v11 v12 v13 v14 v15 v16 x st h Q => gx_one (i := .lload 8) (len := 2) (by decide +kernel) rfl,
   fun v0 v1 v2 v3 v4 v5 v6 v7 v8 v9 v10 v11 v12 v13 v14 v15 v16 a0 a1 h Q => gx_stat (x := 215) (t := 171) (n := 2) (by decide +kernel) (by decide +kernel) (by decide) (by decide +kernel) rfl (Or.inl (Nat.le_of_ble_eq_true rfl)) (by show _ ≤ mr_mxl 171; rw [show mr_mxl 171 = 10 from by decide +kernel]; exact Nat.le_of_ble_eq_true rfl),
   fun v0 v1 v2 v3 v4 v5 v6 v7 v8 v10 v11 v12 v13 v14 v15 v16 x st h Q => gx_one (i := .lstore 10) (len := 2) (by decide +kernel) rfl,
   fun v0 v1 v2 v3 v5 v6 v7 v8 v9 v10 v11 v12 v13 v14 v15 v16 x st h Q => gx_one (i := .iload 4) (len := 2) (by decide +kernel) rfl,
   fun v0 v1 v2 v3 v4 v5 v6 v7 v8 v9 v10 v11 v12 v13 v14 v15 v16 x st h Q => gx_br (i := .ifCond .ne 11) (len := 3) (c := .ne) (by decide +kernel) rfl rfl,
   fun v0 v1 v2 v3 v4 v5 v7 v8 v9 v10 v11 v12 v13 v14 v15 v16 x st h Q => gx_one (i := .lload 6) (len := 2) (by decide +kernel) rfl,
   fun v0 v1 v2 v3 v4 v5 v6 v7 v8 v9 v11 v12 v13 v14 v15 v16 x st h Q => gx_one (i := .lload 10) (len := 2) (by decide +kernel) rfl,
   fun v0 v1 v2 v3 v4 v5 v6 v7 v8 v9 v10 v11 v12 v13 v14 v15 v16 x y st h Q hv => gx_one (i := .ldiv) (len := 1) (by decide +kernel) (by simp only [mr_one]; rw [if_neg hv]; rfl),
   fun v0 v1 v2 v3 v4 v5 v6 v7 v8 v9 v10 v11 v12 v13 v14 v15 v16 st h Q => gx_one (i := .goto 8) (len := 3) (by decide +kernel) rfl,
   fun v0 v1 v2 v3 v4 v5 v6 v7 v9 v10 v11 v12 v13 v14 v15 v16 x st h Q => gx_one (i := .lload 8) (len := 2) (by decide +kernel) rfl,
   fun v0 v1 v2 v3 v4 v5 v6 v7 v8 v9 v11 v12 v13 v14 v15 v16 x st h Q => gx_one (i := .lload 10) (len := 2) (by decide +kernel) rfl,
   fun v0 v1 v2 v3 v4 v5 v6 v7 v8 v9 v10 v11 v12 v13 v14 v15 v16 x y st h Q hv => gx_one (i := .ldiv) (len := 1) (by decide +kernel) (by simp only [mr_one]; rw [if_neg hv]; rfl),
   fun v0 v1 v2 v3 v4 v5 v6 v7 v8 v9 v10 v11 v12 v13 v14 v15 v16 x st h Q => gx_one (i := .l2i) (len := 1) (by decide +kernel) rfl,
   fun v0 v1 v2 v3 v4 v5 v6 v7 v8 v9 v10 v11 v12 v13 v14 v15 v16 x h Q => gx_ret (i := .ireturn) (len := 1) (by decide +kernel) rfl rfl (by simp only [mr_rt, if_pos]; rw [if_pos (Or.inl (by decide +kernel))])⟩

theorem s_mo_gcd_6 (v0 v1 v2 v3 v4 v5 v7 v8 v9 : Value) (x : Int64) (st : List Value) (h : mr_h) (Q : Option Value → mr_h → Prop) : mr_wp 171 6 [v0, v1, v2, v3, v4, v5, .long x, v7, v8, v9] st h Q = mr_wp 171 8 [v0, v1, v2, v3, v4, v5, .long x, v7, v8, v9] (.long x :: st) h Q := gx_one (i := .lload 6) (len := 2) (by decide +kernel) rfl
theorem S_mo_gcd : (∀ (v1 v2 v3 v4 v5 v6 v7 v8 v9 : Value) (x : Int64) (st : List Value) (h : mr_h) (Q : Option Value → mr_h → Prop), mr_wp 171 0 [.long x, v1, v2, v3, v4, v5, v6, v7, v8, v9] st h Q = mr_wp 171 1 [.long x, v1, v2, v3, v4, v5, v6, v7, v8, v9] (.long x :: st) h Q) ∧
    (∀ (v0 v1 v2 v4 v5 v6 v7 v8 v9 : Value) (x : Int64) (st : List Value) (h : mr_h) (Q : Option Value → mr_h → Prop), mr_wp 171 1 [v0, v1, v2, .null, v4, v5, v6, v7, v8, v9] (.long x :: st) h Q = mr_wp 171 3 [v0, v1, v2, .null, .long x, .null, v6, v7, v8, v9] st h Q) ∧
    (∀ (v0 v1 v3 v4 v5 v6 v7 v8 v9 : Value) (x : Int64) (st : List Value) (h : mr_h) (Q : Option Value → mr_h → Prop), mr_wp 171 3 [v0, v1, .long x, v3, v4, v5, v6, v7, v8, v9] st h Q = mr_wp 171 4 [v0, v1, .long x, v3, v4, v5, v6, v7, v8, v9] (.long x :: st) h Q) ∧
    (∀ (v0 v1 v2 v3 v4 v6 v7 v8 v9 : Value) (x : Int64) (st : List Value) (h : mr_h) (Q : Option Value → mr_h → Prop), mr_wp 171 4 [v0, v1, v2, v3, v4, .null, v6, v7, v8, v9] (.long x :: st) h Q = mr_wp 171 6 [v0, v1, v2, v3, v4, .null, .long x, .null, v8, v9] st h Q) ∧
    (∀ (v0 v1 v2 v3 v4 v5 v6 v7 v8 v9 : Value) (st : List Value) (h : mr_h) (Q : Option Value → mr_h → Prop), mr_wp 171 8 [v0, v1, v2, v3, v4, v5, v6, v7, v8, v9] st h Q = mr_wp 171 9 [v0, v1, v2, v3, v4, v5, v6, v7, v8, v9] (.long (0) :: st) h Q) ∧
    (∀ (v0 v1 v2 v3 v4 v5 v6 v7 v8 v9 : Value) (x : Int64) (y : Int64) (st : List Value) (h : mr_h) (Q : Option Value → mr_h → Prop), mr_wp 171 9 [v0, v1, v2, v3, v4, v5, v6, v7, v8, v9] (.long y :: .long x :: st) h Q = mr_wp 171 10 [v0, v1, v2, v3, v4, v5, v6, v7, v8, v9] (.int (lg_cmp x y) :: st) h Q) ∧
    (∀ (v0 v1 v2 v3 v4 v5 v6 v7 v8 v9 : Value) (x : Int32) (st : List Value) (h : mr_h) (Q : Option Value → mr_h → Prop), mr_wp 171 10 [v0, v1, v2, v3, v4, v5, v6, v7, v8, v9] (.int x :: st) h Q = if x = 0 then mr_wp 171 31 [v0, v1, v2, v3, v4, v5, v6, v7, v8, v9] st h Q else mr_wp 171 13 [v0, v1, v2, v3, v4, v5, v6, v7, v8, v9] st h Q) ∧
    (∀ (v0 v1 v2 v3 v5 v6 v7 v8 v9 : Value) (x : Int64) (st : List Value) (h : mr_h) (Q : Option Value → mr_h → Prop), mr_wp 171 13 [v0, v1, v2, v3, .long x, v5, v6, v7, v8, v9] st h Q = mr_wp 171 15 [v0, v1, v2, v3, .long x, v5, v6, v7, v8, v9] (.long x :: st) h Q) ∧
    (∀ (v0 v1 v2 v3 v4 v5 v7 v8 v9 : Value) (x : Int64) (st : List Value) (h : mr_h) (Q : Option Value → mr_h → Prop), mr_wp 171 15 [v0, v1, v2, v3, v4, v5, .long x, v7, v8, v9] st h Q = mr_wp 171 17 [v0, v1, v2, v3, v4, v5, .long x, v7, v8, v9] (.long x :: st) h Q) ∧
    (∀ (v0 v1 v2 v3 v4 v5 v6 v7 v8 v9 : Value) (x : Int64) (y : Int64) (st : List Value) (h : mr_h) (Q : Option Value → mr_h → Prop) (hv : ¬ y = 0), mr_wp 171 17 [v0, v1, v2, v3, v4, v5, v6, v7, v8, v9] (.long y :: .long x :: st) h Q = mr_wp 171 18 [v0, v1, v2, v3, v4, v5, v6, v7, v8, v9] (.long (x - x / y * y) :: st) h Q) ∧
    (∀ (v0 v1 v2 v3 v4 v5 v6 v8 v9 : Value) (x : Int64) (st : List Value) (h : mr_h) (Q : Option Value → mr_h → Prop), mr_wp 171 18 [v0, v1, v2, v3, v4, v5, v6, .null, v8, v9] (.long x :: st) h Q = mr_wp 171 20 [v0, v1, v2, v3, v4, v5, v6, .null, .long x, .null] st h Q) ∧
    (∀ (v0 v1 v2 v3 v4 v5 v7 v8 v9 : Value) (x : Int64) (st : List Value) (h : mr_h) (Q : Option Value → mr_h → Prop), mr_wp 171 20 [v0, v1, v2, v3, v4, v5, .long x, v7, v8, v9] st h Q = mr_wp 171 22 [v0, v1, v2, v3, v4, v5, .long x, v7, v8, v9] (.long x :: st) h Q) ∧
    (∀ (v0 v1 v2 v4 v5 v6 v7 v8 v9 : Value) (x : Int64) (st : List Value) (h : mr_h) (Q : Option Value → mr_h → Prop), mr_wp 171 22 [v0, v1, v2, .null, v4, v5, v6, v7, v8, v9] (.long x :: st) h Q = mr_wp 171 24 [v0, v1, v2, .null, .long x, .null, v6, v7, v8, v9] st h Q) ∧
    (∀ (v0 v1 v2 v3 v4 v5 v6 v7 v9 : Value) (x : Int64) (st : List Value) (h : mr_h) (Q : Option Value → mr_h → Prop), mr_wp 171 24 [v0, v1, v2, v3, v4, v5, v6, v7, .long x, v9] st h Q = mr_wp 171 26 [v0, v1, v2, v3, v4, v5, v6, v7, .long x, v9] (.long x :: st) h Q) ∧
    (∀ (v0 v1 v2 v3 v4 v6 v7 v8 v9 : Value) (x : Int64) (st : List Value) (h : mr_h) (Q : Option Value → mr_h → Prop), mr_wp 171 26 [v0, v1, v2, v3, v4, .null, v6, v7, v8, v9] (.long x :: st) h Q = mr_wp 171 28 [v0, v1, v2, v3, v4, .null, .long x, .null, v8, v9] st h Q) ∧
    (∀ (v0 v1 v2 v3 v4 v5 v6 v7 v8 v9 : Value) (st : List Value) (h : mr_h) (Q : Option Value → mr_h → Prop), mr_wp 171 28 [v0, v1, v2, v3, v4, v5, v6, v7, v8, v9] st h Q = mr_wp 171 6 [v0, v1, v2, v3, v4, v5, v6, v7, v8, v9] st h Q) ∧
    (∀ (v0 v1 v2 v3 v5 v6 v7 v8 v9 : Value) (x : Int64) (st : List Value) (h : mr_h) (Q : Option Value → mr_h → Prop), mr_wp 171 31 [v0, v1, v2, v3, .long x, v5, v6, v7, v8, v9] st h Q = mr_wp 171 33 [v0, v1, v2, v3, .long x, v5, v6, v7, v8, v9] (.long x :: st) h Q) ∧
    (∀ (v0 v1 v2 v3 v4 v5 v6 v7 v8 v9 : Value) (x : Int64) (h : mr_h) (Q : Option Value → mr_h → Prop), mr_wp 171 33 [v0, v1, v2, v3, v4, v5, v6, v7, v8, v9] [.long x] h Q = Q (some (.long x)) h) :=
  ⟨fun v1 v2 v3 v4 v5 v6 v7 v8 v9 x st h Q => gx_one (i := .lload_n 0) (len := 1) (by decide +kernel) rfl,
   fun v0 v1 v2 v4 v5 v6 v7 v8 v9 x st h Q => gx_one (i := .lstore 4) (len := 2) (by decide +kernel) rfl,
   fun v0 v1 v3 v4 v5 v6 v7 v8 v9 x st h Q => gx_one (i := .lload_n 2) (len := 1) (by decide +kernel) rfl,
   fun v0 v1 v2 v3 v4 v6 v7 v8 v9 x st h Q => gx_one (i := .lstore 6) (len := 2) (by decide +kernel) rfl,
   fun v0 v1 v2 v3 v4 v5 v6 v7 v8 v9 st h Q => gx_one (i := .lconst 0) (len := 1) (by decide +kernel) rfl,
   fun v0 v1 v2 v3 v4 v5 v6 v7 v8 v9 x y st h Q => gx_one (i := .lcmp) (len := 1) (by decide +kernel) rfl,
   fun v0 v1 v2 v3 v4 v5 v6 v7 v8 v9 x st h Q => gx_br (i := .ifCond .eq 21) (len := 3) (c := .eq) (by decide +kernel) rfl rfl,
   fun v0 v1 v2 v3 v5 v6 v7 v8 v9 x st h Q => gx_one (i := .lload 4) (len := 2) (by decide +kernel) rfl,
   fun v0 v1 v2 v3 v4 v5 v7 v8 v9 x st h Q => gx_one (i := .lload 6) (len := 2) (by decide +kernel) rfl,
   fun v0 v1 v2 v3 v4 v5 v6 v7 v8 v9 x y st h Q hv => gx_one (i := .lrem) (len := 1) (by decide +kernel) (by simp only [mr_one]; rw [if_neg hv]; rfl),
   fun v0 v1 v2 v3 v4 v5 v6 v8 v9 x st h Q => gx_one (i := .lstore 8) (len := 2) (by decide +kernel) rfl,
   fun v0 v1 v2 v3 v4 v5 v7 v8 v9 x st h Q => gx_one (i := .lload 6) (len := 2) (by decide +kernel) rfl,
   fun v0 v1 v2 v4 v5 v6 v7 v8 v9 x st h Q => gx_one (i := .lstore 4) (len := 2) (by decide +kernel) rfl,
   fun v0 v1 v2 v3 v4 v5 v6 v7 v9 x st h Q => gx_one (i := .lload 8) (len := 2) (by decide +kernel) rfl,
   fun v0 v1 v2 v3 v4 v6 v7 v8 v9 x st h Q => gx_one (i := .lstore 6) (len := 2) (by decide +kernel) rfl,
   fun v0 v1 v2 v3 v4 v5 v6 v7 v8 v9 st h Q => gx_one (i := .goto (-22)) (len := 3) (by decide +kernel) rfl,
   fun v0 v1 v2 v3 v5 v6 v7 v8 v9 x st h Q => gx_one (i := .lload 4) (len := 2) (by decide +kernel) rfl,
   fun v0 v1 v2 v3 v4 v5 v6 v7 v8 v9 x h Q => gx_ret (i := .lreturn) (len := 1) (by decide +kernel) rfl rfl (by simp only [mr_rt, if_pos]; rw [if_pos (by decide +kernel)])⟩
theorem S_mo_sees_0 : (∀ (v1 v2 v3 : Value) (x : Nat) (st : List Value) (h : mr_h) (Q : Option Value → mr_h → Prop), mr_wp 172 0 [.ref x, v1, v2, v3] st h Q = mr_wp 172 1 [.ref x, v1, v2, v3] (.ref x :: st) h Q) ∧
    (∀ (v0 v1 v2 v3 : Value) (st : List Value) (h : mr_h) (Q : Option Value → mr_h → Prop), mr_wp 172 1 [v0, v1, v2, v3] st h Q = mr_wp 172 2 [v0, v1, v2, v3] (.int (0) :: st) h Q) ∧
    (∀ (v0 v1 v2 v3 : Value) (a : Nat) (x : Int32) (st : List Value) (h : mr_h) (Q : Option Value → mr_h → Prop), mr_wp 172 2 [v0, v1, v2, v3] (.int x :: .ref a :: st) h Q = mr_pf (h.1 a) 11 0 (.int x) (fun c => mr_wp 172 5 [v0, v1, v2, v3] st (mr_up h a c) Q)) ∧
    (∀ (v1 v2 v3 : Value) (x : Nat) (st : List Value) (h : mr_h) (Q : Option Value → mr_h → Prop), mr_wp 172 5 [.ref x, v1, v2, v3] st h Q = mr_wp 172 6 [.ref x, v1, v2, v3] (.ref x :: st) h Q) ∧
    (∀ (v0 v2 v3 : Value) (x : Int32) (st : List Value) (h : mr_h) (Q : Option Value → mr_h → Prop), mr_wp 172 6 [v0, .int x, v2, v3] st h Q = mr_wp 172 7 [v0, .int x, v2, v3] (.int x :: st) h Q) ∧
    (∀ (v0 v1 v2 v3 : Value) (a0 : Int32) (o : Nat) (h : mr_h) (Q : Option Value → mr_h → Prop), mr_wp 172 7 [v0, v1, v2, v3] [.int a0, .ref o] h Q = mr_rc (h.1 o) 11 (mr_run 132 [.ref o, .int a0] h (fun v h' => mr_wp 172 10 [v0, v1, v2, v3] (v.toList ++ []) h' Q))) ∧
    (∀ (v0 v1 v2 v3 : Value) (x : Int32) (st : List Value) (h : mr_h) (Q : Option Value → mr_h → Prop), mr_wp 172 10 [v0, v1, v2, v3] (.int x :: st) h Q = if x = 0 then mr_wp 172 30 [v0, v1, v2, v3] st h Q else mr_wp 172 13 [v0, v1, v2, v3] st h Q) ∧
    (∀ (v1 v2 v3 : Value) (x : Nat) (st : List Value) (h : mr_h) (Q : Option Value → mr_h → Prop), mr_wp 172 13 [.ref x, v1, v2, v3] st h Q = mr_wp 172 14 [.ref x, v1, v2, v3] (.ref x :: st) h Q) ∧
    (∀ (v0 v1 v3 : Value) (x : Int32) (st : List Value) (h : mr_h) (Q : Option Value → mr_h → Prop), mr_wp 172 14 [v0, v1, .int x, v3] st h Q = mr_wp 172 15 [v0, v1, .int x, v3] (.int x :: st) h Q) ∧
    (∀ (v0 v1 v2 v3 : Value) (a0 : Int32) (o : Nat) (h : mr_h) (Q : Option Value → mr_h → Prop), mr_wp 172 15 [v0, v1, v2, v3] [.int a0, .ref o] h Q = mr_rc (h.1 o) 11 (mr_run 132 [.ref o, .int a0] h (fun v h' => mr_wp 172 18 [v0, v1, v2, v3] (v.toList ++ []) h' Q))) ∧
    (∀ (v0 v1 v2 v3 : Value) (x : Int32) (st : List Value) (h : mr_h) (Q : Option Value → mr_h → Prop), mr_wp 172 18 [v0, v1, v2, v3] (.int x :: st) h Q = if x = 0 then mr_wp 172 30 [v0, v1, v2, v3] st h Q else mr_wp 172 21 [v0, v1, v2, v3] st h Q) ∧
    (∀ (v0 v1 v2 : Value) (x : Int32) (st : List Value) (h : mr_h) (Q : Option Value → mr_h → Prop), mr_wp 172 21 [v0, v1, v2, .int x] st h Q = mr_wp 172 22 [v0, v1, v2, .int x] (.int x :: st) h Q) ∧
    (∀ (v0 v1 v2 v3 : Value) (st : List Value) (h : mr_h) (Q : Option Value → mr_h → Prop), mr_wp 172 22 [v0, v1, v2, v3] st h Q = mr_wp 172 23 [v0, v1, v2, v3] (.int (0) :: st) h Q) ∧
    (∀ (v0 v1 v2 v3 : Value) (st : List Value) (h : mr_h) (Q : Option Value → mr_h → Prop), mr_wp 172 23 [v0, v1, v2, v3] st h Q = mr_wp 172 24 [v0, v1, v2, v3] (.int (1) :: st) h Q) ∧
    (∀ (v0 v1 v2 v3 : Value) (a0 : Int32) (a1 : Int32) (a2 : Int32) (h : mr_h) (Q : Option Value → mr_h → Prop), mr_wp 172 24 [v0, v1, v2, v3] [.int a2, .int a1, .int a0] h Q = mr_run 121 [.int a0, .int a1, .int a2] h (fun v h' => mr_wp 172 27 [v0, v1, v2, v3] (v.toList ++ []) h' Q)) ∧
    (∀ (v0 v1 v2 v3 : Value) (x : Int32) (st : List Value) (h : mr_h) (Q : Option Value → mr_h → Prop), mr_wp 172 27 [v0, v1, v2, v3] (.int x :: st) h Q = if ¬ x = 0 then mr_wp 172 32 [v0, v1, v2, v3] st h Q else mr_wp 172 30 [v0, v1, v2, v3] st h Q) ∧
    (∀ (v0 v1 v2 v3 : Value) (st : List Value) (h : mr_h) (Q : Option Value → mr_h → Prop), mr_wp 172 30 [v0, v1, v2, v3] st h Q = mr_wp 172 31 [v0, v1, v2, v3] (.int (-1) :: st) h Q) ∧
    (∀ (v0 v1 v2 v3 : Value) (x : Int32) (h : mr_h) (Q : Option Value → mr_h → Prop), mr_wp 172 31 [v0, v1, v2, v3] [.int x] h Q = Q (some (.int x)) h) ∧
    (∀ (v1 v2 v3 : Value) (x : Nat) (st : List Value) (h : mr_h) (Q : Option Value → mr_h → Prop), mr_wp 172 32 [.ref x, v1, v2, v3] st h Q = mr_wp 172 33 [.ref x, v1, v2, v3] (.ref x :: st) h Q) ∧
    (∀ (v0 v1 v2 v3 : Value) (a : Nat) (st : List Value) (h : mr_h) (Q : Option Value → mr_h → Prop), mr_wp 172 33 [v0, v1, v2, v3] (.ref a :: st) h Q = mr_gf (h.1 a) 11 21 (fun v => mr_wp 172 36 [v0, v1, v2, v3] (v :: st) h Q)) ∧
    (∀ (v0 v1 v2 v3 : Value) (st : List Value) (h : mr_h) (Q : Option Value → mr_h → Prop), mr_wp 172 36 [v0, v1, v2, v3] st h Q = mr_wp 172 38 [v0, v1, v2, v3] (.int (6) :: st) h Q) ∧
    (∀ (v0 v1 v2 v3 : Value) (x : Int32) (y : Int32) (st : List Value) (h : mr_h) (Q : Option Value → mr_h → Prop), mr_wp 172 38 [v0, v1, v2, v3] (.int y :: .int x :: st) h Q = if ¬ x = y then mr_wp 172 44 [v0, v1, v2, v3] st h Q else mr_wp 172 41 [v0, v1, v2, v3] st h Q) ∧
    (∀ (v0 v1 v2 v3 : Value) (st : List Value) (h : mr_h) (Q : Option Value → mr_h → Prop), mr_wp 172 41 [v0, v1, v2, v3] st h Q = mr_wp 172 43 [v0, v1, v2, v3] (.int (-3) :: st) h Q) ∧
    (∀ (v0 v1 v2 v3 : Value) (x : Int32) (h : mr_h) (Q : Option Value → mr_h → Prop), mr_wp 172 43 [v0, v1, v2, v3] [.int x] h Q = Q (some (.int x)) h) ∧
    (∀ (v1 v2 v3 : Value) (x : Nat) (st : List Value) (h : mr_h) (Q : Option Value → mr_h → Prop), mr_wp 172 44 [.ref x, v1, v2, v3] st h Q = mr_wp 172 45 [.ref x, v1, v2, v3] (.ref x :: st) h Q) ∧
    (∀ (v0 v1 v2 v3 : Value) (a : Nat) (st : List Value) (h : mr_h) (Q : Option Value → mr_h → Prop), mr_wp 172 45 [v0, v1, v2, v3] (.ref a :: st) h Q = mr_gf (h.1 a) 11 18 (fun v => mr_wp 172 48 [v0, v1, v2, v3] (v :: st) h Q)) ∧
    (∀ (v1 v2 v3 : Value) (x : Nat) (st : List Value) (h : mr_h) (Q : Option Value → mr_h → Prop), mr_wp 172 48 [.ref x, v1, v2, v3] st h Q = mr_wp 172 49 [.ref x, v1, v2, v3] (.ref x :: st) h Q) ∧
    (∀ (v0 v1 v2 v3 : Value) (a : Nat) (st : List Value) (h : mr_h) (Q : Option Value → mr_h → Prop), mr_wp 172 49 [v0, v1, v2, v3] (.ref a :: st) h Q = mr_gf (h.1 a) 11 21 (fun v => mr_wp 172 52 [v0, v1, v2, v3] (v :: st) h Q)) ∧
    (∀ (v0 v2 v3 : Value) (x : Int32) (st : List Value) (h : mr_h) (Q : Option Value → mr_h → Prop), mr_wp 172 52 [v0, .int x, v2, v3] st h Q = mr_wp 172 53 [v0, .int x, v2, v3] (.int x :: st) h Q) ∧
    (∀ (v0 v1 v2 v3 : Value) (a : Nat) (x : Int32) (y : Int32) (st : List Value) (h : mr_h) (Q : Option Value → mr_h → Prop), mr_wp 172 53 [v0, v1, v2, v3] (.int y :: .int x :: .ref a :: st) h Q = mr_si (h.1 a) x y (fun c => mr_wp 172 54 [v0, v1, v2, v3] st (mr_up h a c) Q)) ∧
    (∀ (v1 v2 v3 : Value) (x : Nat) (st : List Value) (h : mr_h) (Q : Option Value → mr_h → Prop), mr_wp 172 54 [.ref x, v1, v2, v3] st h Q = mr_wp 172 55 [.ref x, v1, v2, v3] (.ref x :: st) h Q) ∧
    (∀ (v0 v1 v2 v3 : Value) (a : Nat) (st : List Value) (h : mr_h) (Q : Option Value → mr_h → Prop), mr_wp 172 55 [v0, v1, v2, v3] (.ref a :: st) h Q = mr_gf (h.1 a) 11 19 (fun v => mr_wp 172 58 [v0, v1, v2, v3] (v :: st) h Q)) ∧
    (∀ (v1 v2 v3 : Value) (x : Nat) (st : List Value) (h : mr_h) (Q : Option Value → mr_h → Prop), mr_wp 172 58 [.ref x, v1, v2, v3] st h Q = mr_wp 172 59 [.ref x, v1, v2, v3] (.ref x :: st) h Q) ∧
    (∀ (v0 v1 v2 v3 : Value) (a : Nat) (st : List Value) (h : mr_h) (Q : Option Value → mr_h → Prop), mr_wp 172 59 [v0, v1, v2, v3] (.ref a :: st) h Q = mr_gf (h.1 a) 11 21 (fun v => mr_wp 172 62 [v0, v1, v2, v3] (v :: st) h Q)) ∧
    (∀ (v0 v1 v3 : Value) (x : Int32) (st : List Value) (h : mr_h) (Q : Option Value → mr_h → Prop), mr_wp 172 62 [v0, v1, .int x, v3] st h Q = mr_wp 172 63 [v0, v1, .int x, v3] (.int x :: st) h Q) ∧
    (∀ (v0 v1 v2 v3 : Value) (a : Nat) (x : Int32) (y : Int32) (st : List Value) (h : mr_h) (Q : Option Value → mr_h → Prop), mr_wp 172 63 [v0, v1, v2, v3] (.int y :: .int x :: .ref a :: st) h Q = mr_si (h.1 a) x y (fun c => mr_wp 172 64 [v0, v1, v2, v3] st (mr_up h a c) Q)) ∧
    (∀ (v1 v2 v3 : Value) (x : Nat) (st : List Value) (h : mr_h) (Q : Option Value → mr_h → Prop), mr_wp 172 64 [.ref x, v1, v2, v3] st h Q = mr_wp 172 65 [.ref x, v1, v2, v3] (.ref x :: st) h Q) ∧
    (∀ (v0 v1 v2 v3 : Value) (a : Nat) (st : List Value) (h : mr_h) (Q : Option Value → mr_h → Prop), mr_wp 172 65 [v0, v1, v2, v3] (.ref a :: st) h Q = mr_gf (h.1 a) 11 20 (fun v => mr_wp 172 68 [v0, v1, v2, v3] (v :: st) h Q)) ∧
    (∀ (v1 v2 v3 : Value) (x : Nat) (st : List Value) (h : mr_h) (Q : Option Value → mr_h → Prop), mr_wp 172 68 [.ref x, v1, v2, v3] st h Q = mr_wp 172 69 [.ref x, v1, v2, v3] (.ref x :: st) h Q) ∧
    (∀ (v0 v1 v2 v3 : Value) (a : Nat) (st : List Value) (h : mr_h) (Q : Option Value → mr_h → Prop), mr_wp 172 69 [v0, v1, v2, v3] (.ref a :: st) h Q = mr_gf (h.1 a) 11 21 (fun v => mr_wp 172 72 [v0, v1, v2, v3] (v :: st) h Q)) :=
  ⟨fun v1 v2 v3 x st h Q => gx_one (i := .aload_n 0) (len := 1) (by decide +kernel) rfl,
   fun v0 v1 v2 v3 st h Q => gx_one (i := .iconst 0) (len := 1) (by decide +kernel) rfl,
   fun v0 v1 v2 v3 a x st h Q => gx_put (x := 65) (by decide +kernel) (by decide +kernel) ⟨rfl, Or.inl rfl⟩,
   fun v1 v2 v3 x st h Q => gx_one (i := .aload_n 0) (len := 1) (by decide +kernel) rfl,
   fun v0 v2 v3 x st h Q => gx_one (i := .iload_n 1) (len := 1) (by decide +kernel) rfl,
   fun v0 v1 v2 v3 a0 o h Q => gx_virt (x := 132) (n := 1) (by decide +kernel) (by decide +kernel) rfl (Or.inl (Nat.le_of_ble_eq_true rfl)) (by show _ ≤ mr_mxl 132; rw [show mr_mxl 132 = 2 from by decide +kernel]; exact Nat.le_of_ble_eq_true rfl) (by decide +kernel),
   fun v0 v1 v2 v3 x st h Q => gx_br (i := .ifCond .eq 20) (len := 3) (c := .eq) (by decide +kernel) rfl rfl,
   fun v1 v2 v3 x st h Q => gx_one (i := .aload_n 0) (len := 1) (by decide +kernel) rfl,
   fun v0 v1 v3 x st h Q => gx_one (i := .iload_n 2) (len := 1) (by decide +kernel) rfl,
   fun v0 v1 v2 v3 a0 o h Q => gx_virt (x := 132) (n := 1) (by decide +kernel) (by decide +kernel) rfl (Or.inl (Nat.le_of_ble_eq_true rfl)) (by show _ ≤ mr_mxl 132; rw [show mr_mxl 132 = 2 from by decide +kernel]; exact Nat.le_of_ble_eq_true rfl) (by decide +kernel),
   fun v0 v1 v2 v3 x st h Q => gx_br (i := .ifCond .eq 12) (len := 3) (c := .eq) (by decide +kernel) rfl rfl,
   fun v0 v1 v2 x st h Q => gx_one (i := .iload_n 3) (len := 1) (by decide +kernel) rfl,
   fun v0 v1 v2 v3 st h Q => gx_one (i := .iconst 0) (len := 1) (by decide +kernel) rfl,
   fun v0 v1 v2 v3 st h Q => gx_one (i := .iconst 1) (len := 1) (by decide +kernel) rfl,
   fun v0 v1 v2 v3 a0 a1 a2 h Q => gx_stat (x := 69) (t := 121) (n := 3) (by decide +kernel) (by decide +kernel) (by decide) (by decide +kernel) rfl (Or.inl (Nat.le_of_ble_eq_true rfl)) (by show _ ≤ mr_mxl 121; rw [show mr_mxl 121 = 3 from by decide +kernel]; exact Nat.le_of_ble_eq_true rfl),
   fun v0 v1 v2 v3 x st h Q => gx_br (i := .ifCond .ne 5) (len := 3) (c := .ne) (by decide +kernel) rfl rfl,
   fun v0 v1 v2 v3 st h Q => gx_one (i := .iconst (-1)) (len := 1) (by decide +kernel) rfl,
   fun v0 v1 v2 v3 x h Q => gx_ret (i := .ireturn) (len := 1) (by decide +kernel) rfl rfl (by simp only [mr_rt, if_pos]; rw [if_pos (Or.inl (by decide +kernel))]),
   fun v1 v2 v3 x st h Q => gx_one (i := .aload_n 0) (len := 1) (by decide +kernel) rfl,
   fun v0 v1 v2 v3 a st h Q => gx_get (x := 126) (by decide +kernel) (by decide +kernel),
   fun v0 v1 v2 v3 st h Q => gx_one (i := .bipush 6) (len := 2) (by decide +kernel) rfl,
   fun v0 v1 v2 v3 x y st h Q => gx_br (i := .if_icmp .ne 6) (len := 3) (c := .ne) (by decide +kernel) rfl rfl,
   fun v0 v1 v2 v3 st h Q => gx_one (i := .bipush (-3)) (len := 2) (by decide +kernel) rfl,
   fun v0 v1 v2 v3 x h Q => gx_ret (i := .ireturn) (len := 1) (by decide +kernel) rfl rfl (by simp only [mr_rt, if_pos]; rw [if_pos (Or.inl (by decide +kernel))]),
   fun v1 v2 v3 x st h Q => gx_one (i := .aload_n 0) (len := 1) (by decide +kernel) rfl,
   fun v0 v1 v2 v3 a st h Q => gx_get (x := 32) (by decide +kernel) (by decide +kernel),
   fun v1 v2 v3 x st h Q => gx_one (i := .aload_n 0) (len := 1) (by decide +kernel) rfl,
   fun v0 v1 v2 v3 a st h Q => gx_get (x := 126) (by decide +kernel) (by decide +kernel),
   fun v0 v2 v3 x st h Q => gx_one (i := .iload_n 1) (len := 1) (by decide +kernel) rfl,
   fun v0 v1 v2 v3 a x y st h Q => gx_iast (by decide +kernel),
   fun v1 v2 v3 x st h Q => gx_one (i := .aload_n 0) (len := 1) (by decide +kernel) rfl,
   fun v0 v1 v2 v3 a st h Q => gx_get (x := 35) (by decide +kernel) (by decide +kernel),
   fun v1 v2 v3 x st h Q => gx_one (i := .aload_n 0) (len := 1) (by decide +kernel) rfl,
   fun v0 v1 v2 v3 a st h Q => gx_get (x := 126) (by decide +kernel) (by decide +kernel),
   fun v0 v1 v3 x st h Q => gx_one (i := .iload_n 2) (len := 1) (by decide +kernel) rfl,
   fun v0 v1 v2 v3 a x y st h Q => gx_iast (by decide +kernel),
   fun v1 v2 v3 x st h Q => gx_one (i := .aload_n 0) (len := 1) (by decide +kernel) rfl,
   fun v0 v1 v2 v3 a st h Q => gx_get (x := 38) (by decide +kernel) (by decide +kernel),
   fun v1 v2 v3 x st h Q => gx_one (i := .aload_n 0) (len := 1) (by decide +kernel) rfl,
   fun v0 v1 v2 v3 a st h Q => gx_get (x := 126) (by decide +kernel) (by decide +kernel)⟩
theorem S_mo_sees_1 : (∀ (v0 v1 v2 : Value) (x : Int32) (st : List Value) (h : mr_h) (Q : Option Value → mr_h → Prop), mr_wp 172 72 [v0, v1, v2, .int x] st h Q = mr_wp 172 73 [v0, v1, v2, .int x] (.int x :: st) h Q) ∧
    (∀ (v0 v1 v2 v3 : Value) (a : Nat) (x : Int32) (y : Int32) (st : List Value) (h : mr_h) (Q : Option Value → mr_h → Prop), mr_wp 172 73 [v0, v1, v2, v3] (.int y :: .int x :: .ref a :: st) h Q = mr_si (h.1 a) x y (fun c => mr_wp 172 74 [v0, v1, v2, v3] st (mr_up h a c) Q)) ∧
    (∀ (v1 v2 v3 : Value) (x : Nat) (st : List Value) (h : mr_h) (Q : Option Value → mr_h → Prop), mr_wp 172 74 [.ref x, v1, v2, v3] st h Q = mr_wp 172 75 [.ref x, v1, v2, v3] (.ref x :: st) h Q) ∧
    (∀ (v0 v1 v2 v3 : Value) (x : Nat) (st : List Value) (h : mr_h) (Q : Option Value → mr_h → Prop), mr_wp 172 75 [v0, v1, v2, v3] (.ref x :: st) h Q = mr_wp 172 76 [v0, v1, v2, v3] (.ref x :: .ref x :: st) h Q) ∧
    (∀ (v0 v1 v2 v3 : Value) (a : Nat) (st : List Value) (h : mr_h) (Q : Option Value → mr_h → Prop), mr_wp 172 76 [v0, v1, v2, v3] (.ref a :: st) h Q = mr_gf (h.1 a) 11 21 (fun v => mr_wp 172 79 [v0, v1, v2, v3] (v :: st) h Q)) ∧
    (∀ (v0 v1 v2 v3 : Value) (st : List Value) (h : mr_h) (Q : Option Value → mr_h → Prop), mr_wp 172 79 [v0, v1, v2, v3] st h Q = mr_wp 172 80 [v0, v1, v2, v3] (.int (1) :: st) h Q) ∧
    (∀ (v0 v1 v2 v3 : Value) (x : Int32) (y : Int32) (st : List Value) (h : mr_h) (Q : Option Value → mr_h → Prop), mr_wp 172 80 [v0, v1, v2, v3] (.int y :: .int x :: st) h Q = mr_wp 172 81 [v0, v1, v2, v3] (.int (x + y) :: st) h Q) ∧
    (∀ (v0 v1 v2 v3 : Value) (a : Nat) (x : Int32) (st : List Value) (h : mr_h) (Q : Option Value → mr_h → Prop), mr_wp 172 81 [v0, v1, v2, v3] (.int x :: .ref a :: st) h Q = mr_pf (h.1 a) 11 21 (.int x) (fun c => mr_wp 172 84 [v0, v1, v2, v3] st (mr_up h a c) Q)) ∧
    (∀ (v1 v2 v3 : Value) (x : Nat) (st : List Value) (h : mr_h) (Q : Option Value → mr_h → Prop), mr_wp 172 84 [.ref x, v1, v2, v3] st h Q = mr_wp 172 85 [.ref x, v1, v2, v3] (.ref x :: st) h Q) ∧
    (∀ (v0 v1 v2 v3 : Value) (a : Nat) (st : List Value) (h : mr_h) (Q : Option Value → mr_h → Prop), mr_wp 172 85 [v0, v1, v2, v3] (.ref a :: st) h Q = mr_gf (h.1 a) 11 21 (fun v => mr_wp 172 88 [v0, v1, v2, v3] (v :: st) h Q)) ∧
    (∀ (v0 v1 v2 v3 : Value) (x : Int32) (h : mr_h) (Q : Option Value → mr_h → Prop), mr_wp 172 88 [v0, v1, v2, v3] [.int x] h Q = Q (some (.int x)) h) :=
  ⟨fun v0 v1 v2 x st h Q => gx_one (i := .iload_n 3) (len := 1) (by decide +kernel) rfl,
   fun v0 v1 v2 v3 a x y st h Q => gx_iast (by decide +kernel),
   fun v1 v2 v3 x st h Q => gx_one (i := .aload_n 0) (len := 1) (by decide +kernel) rfl,
   fun v0 v1 v2 v3 x st h Q => gx_one (i := .dup) (len := 1) (by decide +kernel) rfl,
   fun v0 v1 v2 v3 a st h Q => gx_get (x := 126) (by decide +kernel) (by decide +kernel),
   fun v0 v1 v2 v3 st h Q => gx_one (i := .iconst 1) (len := 1) (by decide +kernel) rfl,
   fun v0 v1 v2 v3 x y st h Q => gx_one (i := .iadd) (len := 1) (by decide +kernel) rfl,
   fun v0 v1 v2 v3 a x st h Q => gx_put (x := 126) (by decide +kernel) (by decide +kernel) ⟨rfl, Or.inl rfl⟩,
   fun v1 v2 v3 x st h Q => gx_one (i := .aload_n 0) (len := 1) (by decide +kernel) rfl,
   fun v0 v1 v2 v3 a st h Q => gx_get (x := 126) (by decide +kernel) (by decide +kernel),
   fun v0 v1 v2 v3 x h Q => gx_ret (i := .ireturn) (len := 1) (by decide +kernel) rfl rfl (by simp only [mr_rt, if_pos]; rw [if_pos (Or.inl (by decide +kernel))])⟩

theorem S_mo_forget : (∀ (v1 : Value) (x : Nat) (st : List Value) (h : mr_h) (Q : Option Value → mr_h → Prop), mr_wp 173 0 [.ref x, v1] st h Q = mr_wp 173 1 [.ref x, v1] (.ref x :: st) h Q) ∧
    (∀ (v0 v1 : Value) (st : List Value) (h : mr_h) (Q : Option Value → mr_h → Prop), mr_wp 173 1 [v0, v1] st h Q = mr_wp 173 2 [v0, v1] (.int (0) :: st) h Q) ∧
    (∀ (v0 v1 : Value) (a : Nat) (x : Int32) (st : List Value) (h : mr_h) (Q : Option Value → mr_h → Prop), mr_wp 173 2 [v0, v1] (.int x :: .ref a :: st) h Q = mr_pf (h.1 a) 11 0 (.int x) (fun c => mr_wp 173 5 [v0, v1] st (mr_up h a c) Q)) ∧
    (∀ (v1 : Value) (x : Nat) (st : List Value) (h : mr_h) (Q : Option Value → mr_h → Prop), mr_wp 173 5 [.ref x, v1] st h Q = mr_wp 173 6 [.ref x, v1] (.ref x :: st) h Q) ∧
    (∀ (v0 v1 : Value) (a : Nat) (st : List Value) (h : mr_h) (Q : Option Value → mr_h → Prop), mr_wp 173 6 [v0, v1] (.ref a :: st) h Q = mr_gf (h.1 a) 11 21 (fun v => mr_wp 173 9 [v0, v1] (v :: st) h Q)) ∧
    (∀ (v1 : Value) (w0 : Nat) (x : Int32) (st : List Value) (h : mr_h) (Q : Option Value → mr_h → Prop), mr_wp 173 9 [.ref w0, v1] (.int x :: st) h Q = mr_wp 173 10 [.ref w0, .int x] st h Q) ∧
    (∀ (v1 : Value) (x : Nat) (st : List Value) (h : mr_h) (Q : Option Value → mr_h → Prop), mr_wp 173 10 [.ref x, v1] st h Q = mr_wp 173 11 [.ref x, v1] (.ref x :: st) h Q) ∧
    (∀ (v0 v1 : Value) (st : List Value) (h : mr_h) (Q : Option Value → mr_h → Prop), mr_wp 173 11 [v0, v1] st h Q = mr_wp 173 12 [v0, v1] (.int (0) :: st) h Q) ∧
    (∀ (v0 v1 : Value) (a : Nat) (x : Int32) (st : List Value) (h : mr_h) (Q : Option Value → mr_h → Prop), mr_wp 173 12 [v0, v1] (.int x :: .ref a :: st) h Q = mr_pf (h.1 a) 11 21 (.int x) (fun c => mr_wp 173 15 [v0, v1] st (mr_up h a c) Q)) ∧
    (∀ (v0 : Value) (x : Int32) (st : List Value) (h : mr_h) (Q : Option Value → mr_h → Prop), mr_wp 173 15 [v0, .int x] st h Q = mr_wp 173 16 [v0, .int x] (.int x :: st) h Q) ∧
    (∀ (v0 v1 : Value) (x : Int32) (h : mr_h) (Q : Option Value → mr_h → Prop), mr_wp 173 16 [v0, v1] [.int x] h Q = Q (some (.int x)) h) :=
  ⟨fun v1 x st h Q => gx_one (i := .aload_n 0) (len := 1) (by decide +kernel) rfl,
   fun v0 v1 st h Q => gx_one (i := .iconst 0) (len := 1) (by decide +kernel) rfl,
   fun v0 v1 a x st h Q => gx_put (x := 65) (by decide +kernel) (by decide +kernel) ⟨rfl, Or.inl rfl⟩,
   fun v1 x st h Q => gx_one (i := .aload_n 0) (len := 1) (by decide +kernel) rfl,
   fun v0 v1 a st h Q => gx_get (x := 126) (by decide +kernel) (by decide +kernel),
   fun v1 w0 x st h Q => gx_one (i := .istore_n 1) (len := 1) (by decide +kernel) rfl,
   fun v1 x st h Q => gx_one (i := .aload_n 0) (len := 1) (by decide +kernel) rfl,
   fun v0 v1 st h Q => gx_one (i := .iconst 0) (len := 1) (by decide +kernel) rfl,
   fun v0 v1 a x st h Q => gx_put (x := 126) (by decide +kernel) (by decide +kernel) ⟨rfl, Or.inl rfl⟩,
   fun v0 x st h Q => gx_one (i := .iload_n 1) (len := 1) (by decide +kernel) rfl,
   fun v0 v1 x h Q => gx_ret (i := .ireturn) (len := 1) (by decide +kernel) rfl rfl (by simp only [mr_rt, if_pos]; rw [if_pos (Or.inl (by decide +kernel))])⟩
theorem S_mo_unseen : (∀ (v1 v2 : Value) (x : Nat) (st : List Value) (h : mr_h) (Q : Option Value → mr_h → Prop), mr_wp 174 0 [.ref x, v1, v2] st h Q = mr_wp 174 1 [.ref x, v1, v2] (.ref x :: st) h Q) ∧
    (∀ (v0 v1 v2 : Value) (st : List Value) (h : mr_h) (Q : Option Value → mr_h → Prop), mr_wp 174 1 [v0, v1, v2] st h Q = mr_wp 174 2 [v0, v1, v2] (.int (0) :: st) h Q) ∧
    (∀ (v0 v1 v2 : Value) (a : Nat) (x : Int32) (st : List Value) (h : mr_h) (Q : Option Value → mr_h → Prop), mr_wp 174 2 [v0, v1, v2] (.int x :: .ref a :: st) h Q = mr_pf (h.1 a) 11 0 (.int x) (fun c => mr_wp 174 5 [v0, v1, v2] st (mr_up h a c) Q)) ∧
    (∀ (v0 v2 : Value) (x : Int32) (st : List Value) (h : mr_h) (Q : Option Value → mr_h → Prop), mr_wp 174 5 [v0, .int x, v2] st h Q = mr_wp 174 6 [v0, .int x, v2] (.int x :: st) h Q) ∧
    (∀ (v0 v1 v2 : Value) (st : List Value) (h : mr_h) (Q : Option Value → mr_h → Prop), mr_wp 174 6 [v0, v1, v2] st h Q = mr_wp 174 7 [v0, v1, v2] (.int (0) :: st) h Q) ∧
    (∀ (v0 v1 v2 : Value) (st : List Value) (h : mr_h) (Q : Option Value → mr_h → Prop), mr_wp 174 7 [v0, v1, v2] st h Q = mr_wp 174 8 [v0, v1, v2] (.int (1) :: st) h Q) ∧
    (∀ (v0 v1 v2 : Value) (a0 : Int32) (a1 : Int32) (a2 : Int32) (h : mr_h) (Q : Option Value → mr_h → Prop), mr_wp 174 8 [v0, v1, v2] [.int a2, .int a1, .int a0] h Q = mr_run 121 [.int a0, .int a1, .int a2] h (fun v h' => mr_wp 174 11 [v0, v1, v2] (v.toList ++ []) h' Q)) ∧
    (∀ (v0 v1 v2 : Value) (x : Int32) (st : List Value) (h : mr_h) (Q : Option Value → mr_h → Prop), mr_wp 174 11 [v0, v1, v2] (.int x :: st) h Q = if ¬ x = 0 then mr_wp 174 16 [v0, v1, v2] st h Q else mr_wp 174 14 [v0, v1, v2] st h Q) ∧
    (∀ (v0 v1 v2 : Value) (st : List Value) (h : mr_h) (Q : Option Value → mr_h → Prop), mr_wp 174 14 [v0, v1, v2] st h Q = mr_wp 174 15 [v0, v1, v2] (.int (-1) :: st) h Q) ∧
    (∀ (v0 v1 v2 : Value) (x : Int32) (h : mr_h) (Q : Option Value → mr_h → Prop), mr_wp 174 15 [v0, v1, v2] [.int x] h Q = Q (some (.int x)) h) ∧
    (∀ (v1 v2 : Value) (x : Nat) (st : List Value) (h : mr_h) (Q : Option Value → mr_h → Prop), mr_wp 174 16 [.ref x, v1, v2] st h Q = mr_wp 174 17 [.ref x, v1, v2] (.ref x :: st) h Q) ∧
    (∀ (v0 v1 v2 : Value) (o : Nat) (h : mr_h) (Q : Option Value → mr_h → Prop), mr_wp 174 17 [v0, v1, v2] [.ref o] h Q = mr_rc (h.1 o) 11 (mr_run 175 [.ref o] h (fun v h' => mr_wp 174 20 [v0, v1, v2] (v.toList ++ []) h' Q))) ∧
    (∀ (v0 v2 : Value) (w1 : Int32) (x : Int32) (st : List Value) (h : mr_h) (Q : Option Value → mr_h → Prop), mr_wp 174 20 [v0, .int w1, v2] (.int x :: st) h Q = mr_wp 174 21 [v0, .int w1, .int x] st h Q) ∧
    (∀ (v0 v2 : Value) (x : Int32) (st : List Value) (h : mr_h) (Q : Option Value → mr_h → Prop), mr_wp 174 21 [v0, .int x, v2] st h Q = mr_wp 174 22 [v0, .int x, v2] (.int x :: st) h Q) ∧
    (∀ (v0 v1 v2 : Value) (x : Int32) (st : List Value) (h : mr_h) (Q : Option Value → mr_h → Prop), mr_wp 174 22 [v0, v1, v2] (.int x :: st) h Q = if ¬ x = 0 then mr_wp 174 29 [v0, v1, v2] st h Q else mr_wp 174 25 [v0, v1, v2] st h Q) ∧
    (∀ (v0 v1 : Value) (x : Int32) (st : List Value) (h : mr_h) (Q : Option Value → mr_h → Prop), mr_wp 174 25 [v0, v1, .int x] st h Q = mr_wp 174 26 [v0, v1, .int x] (.int x :: st) h Q) ∧
    (∀ (v0 v1 v2 : Value) (st : List Value) (h : mr_h) (Q : Option Value → mr_h → Prop), mr_wp 174 26 [v0, v1, v2] st h Q = mr_wp 174 33 [v0, v1, v2] st h Q) ∧
    (∀ (v1 v2 : Value) (x : Nat) (st : List Value) (h : mr_h) (Q : Option Value → mr_h → Prop), mr_wp 174 29 [.ref x, v1, v2] st h Q = mr_wp 174 30 [.ref x, v1, v2] (.ref x :: st) h Q) ∧
    (∀ (v0 v1 v2 : Value) (a : Nat) (st : List Value) (h : mr_h) (Q : Option Value → mr_h → Prop), mr_wp 174 30 [v0, v1, v2] (.ref a :: st) h Q = mr_gf (h.1 a) 11 27 (fun v => mr_wp 174 33 [v0, v1, v2] (v :: st) h Q)) ∧
    (∀ (v0 v1 v2 : Value) (x : Int32) (h : mr_h) (Q : Option Value → mr_h → Prop), mr_wp 174 33 [v0, v1, v2] [.int x] h Q = Q (some (.int x)) h) :=
  ⟨fun v1 v2 x st h Q => gx_one (i := .aload_n 0) (len := 1) (by decide +kernel) rfl,
   fun v0 v1 v2 st h Q => gx_one (i := .iconst 0) (len := 1) (by decide +kernel) rfl,
   fun v0 v1 v2 a x st h Q => gx_put (x := 65) (by decide +kernel) (by decide +kernel) ⟨rfl, Or.inl rfl⟩,
   fun v0 v2 x st h Q => gx_one (i := .iload_n 1) (len := 1) (by decide +kernel) rfl,
   fun v0 v1 v2 st h Q => gx_one (i := .iconst 0) (len := 1) (by decide +kernel) rfl,
   fun v0 v1 v2 st h Q => gx_one (i := .iconst 1) (len := 1) (by decide +kernel) rfl,
   fun v0 v1 v2 a0 a1 a2 h Q => gx_stat (x := 69) (t := 121) (n := 3) (by decide +kernel) (by decide +kernel) (by decide) (by decide +kernel) rfl (Or.inl (Nat.le_of_ble_eq_true rfl)) (by show _ ≤ mr_mxl 121; rw [show mr_mxl 121 = 3 from by decide +kernel]; exact Nat.le_of_ble_eq_true rfl),
   fun v0 v1 v2 x st h Q => gx_br (i := .ifCond .ne 5) (len := 3) (c := .ne) (by decide +kernel) rfl rfl,
   fun v0 v1 v2 st h Q => gx_one (i := .iconst (-1)) (len := 1) (by decide +kernel) rfl,
   fun v0 v1 v2 x h Q => gx_ret (i := .ireturn) (len := 1) (by decide +kernel) rfl rfl (by simp only [mr_rt, if_pos]; rw [if_pos (Or.inl (by decide +kernel))]),
   fun v1 v2 x st h Q => gx_one (i := .aload_n 0) (len := 1) (by decide +kernel) rfl,
   fun v0 v1 v2 o h Q => gx_virt (x := 225) (n := 0) (by decide +kernel) (by decide +kernel) rfl (Or.inl (Nat.le_of_ble_eq_true rfl)) (by show _ ≤ mr_mxl 175; rw [show mr_mxl 175 = 5 from by decide +kernel]; exact Nat.le_of_ble_eq_true rfl) (by decide +kernel),
   fun v0 v2 w1 x st h Q => gx_one (i := .istore_n 2) (len := 1) (by decide +kernel) rfl,
   fun v0 v2 x st h Q => gx_one (i := .iload_n 1) (len := 1) (by decide +kernel) rfl,
   fun v0 v1 v2 x st h Q => gx_br (i := .ifCond .ne 7) (len := 3) (c := .ne) (by decide +kernel) rfl rfl,
   fun v0 v1 x st h Q => gx_one (i := .iload_n 2) (len := 1) (by decide +kernel) rfl,
   fun v0 v1 v2 st h Q => gx_one (i := .goto 7) (len := 3) (by decide +kernel) rfl,
   fun v1 v2 x st h Q => gx_one (i := .aload_n 0) (len := 1) (by decide +kernel) rfl,
   fun v0 v1 v2 a st h Q => gx_get (x := 219) (by decide +kernel) (by decide +kernel),
   fun v0 v1 v2 x h Q => gx_ret (i := .ireturn) (len := 1) (by decide +kernel) rfl rfl (by simp only [mr_rt, if_pos]; rw [if_pos (Or.inl (by decide +kernel))])⟩
theorem s_mo_unseenMany_2 (v0 v2 v3 v4 : Value) (x : Int32) (st : List Value) (h : mr_h) (Q : Option Value → mr_h → Prop) : mr_wp 175 2 [v0, .int x, v2, v3, v4] st h Q = mr_wp 175 3 [v0, .int x, v2, v3, v4] (.int x :: st) h Q := gx_one (i := .iload_n 1) (len := 1) (by decide +kernel) rfl
theorem s_mo_unseenMany_32 (v0 v1 v3 v4 : Value) (x : Int32) (st : List Value) (h : mr_h) (Q : Option Value → mr_h → Prop) : mr_wp 175 32 [v0, v1, .int x, v3, v4] st h Q = mr_wp 175 33 [v0, v1, .int x, v3, v4] (.int x :: st) h Q := gx_one (i := .iload_n 2) (len := 1) (by decide +kernel) rfl
theorem s_mo_unseenMany_42 (v0 v1 v2 v4 : Value) (x : Int32) (st : List Value) (h : mr_h) (Q : Option Value → mr_h → Prop) : mr_wp 175 42 [v0, v1, v2, .int x, v4] st h Q = mr_wp 175 43 [v0, v1, v2, .int x, v4] (.int x :: st) h Q := gx_one (i := .iload_n 3) (len := 1) (by decide +kernel) rfl
theorem s_mo_unseenMany_106 (v0 v1 v2 v3 : Value) (x : Int32) (st : List Value) (h : mr_h) (Q : Option Value → mr_h → Prop) : mr_wp 175 106 [v0, v1, v2, v3, .int x] st h Q = mr_wp 175 108 [v0, v1, v2, v3, .int x] (.int x :: st) h Q := gx_one (i := .iload 4) (len := 2) (by decide +kernel) rfl
theorem S_mo_unseenMany_0 : (∀ (v0 v1 v2 v3 v4 : Value) (st : List Value) (h : mr_h) (Q : Option Value → mr_h → Prop), mr_wp 175 0 [v0, v1, v2, v3, v4] st h Q = mr_wp 175 1 [v0, v1, v2, v3, v4] (.int (0) :: st) h Q) ∧
    (∀ (v1 v2 v3 v4 : Value) (w0 : Nat) (x : Int32) (st : List Value) (h : mr_h) (Q : Option Value → mr_h → Prop), mr_wp 175 1 [.ref w0, v1, v2, v3, v4] (.int x :: st) h Q = mr_wp 175 2 [.ref w0, .int x, v2, v3, v4] st h Q) ∧
    (∀ (v0 v1 v2 v3 v4 : Value) (st : List Value) (h : mr_h) (Q : Option Value → mr_h → Prop), mr_wp 175 3 [v0, v1, v2, v3, v4] st h Q = mr_wp 175 6 [v0, v1, v2, v3, v4] (.int (144) :: st) h Q) ∧
    (∀ (v0 v1 v2 v3 v4 : Value) (x : Int32) (y : Int32) (st : List Value) (h : mr_h) (Q : Option Value → mr_h → Prop), mr_wp 175 6 [v0, v1, v2, v3, v4] (.int y :: .int x :: st) h Q = if y ≤ x then mr_wp 175 22 [v0, v1, v2, v3, v4] st h Q else mr_wp 175 9 [v0, v1, v2, v3, v4] st h Q) ∧
    (∀ (v1 v2 v3 v4 : Value) (x : Nat) (st : List Value) (h : mr_h) (Q : Option Value → mr_h → Prop), mr_wp 175 9 [.ref x, v1, v2, v3, v4] st h Q = mr_wp 175 10 [.ref x, v1, v2, v3, v4] (.ref x :: st) h Q) ∧
    (∀ (v0 v1 v2 v3 v4 : Value) (a : Nat) (st : List Value) (h : mr_h) (Q : Option Value → mr_h → Prop), mr_wp 175 10 [v0, v1, v2, v3, v4] (.ref a :: st) h Q = mr_gf (h.1 a) 11 26 (fun v => mr_wp 175 13 [v0, v1, v2, v3, v4] (v :: st) h Q)) ∧
    (∀ (v0 v2 v3 v4 : Value) (x : Int32) (st : List Value) (h : mr_h) (Q : Option Value → mr_h → Prop), mr_wp 175 13 [v0, .int x, v2, v3, v4] st h Q = mr_wp 175 14 [v0, .int x, v2, v3, v4] (.int x :: st) h Q) ∧
    (∀ (v0 v1 v2 v3 v4 : Value) (st : List Value) (h : mr_h) (Q : Option Value → mr_h → Prop), mr_wp 175 14 [v0, v1, v2, v3, v4] st h Q = mr_wp 175 15 [v0, v1, v2, v3, v4] (.int (0) :: st) h Q) ∧
    (∀ (v0 v1 v2 v3 v4 : Value) (a : Nat) (x : Int32) (y : Int32) (st : List Value) (h : mr_h) (Q : Option Value → mr_h → Prop), mr_wp 175 15 [v0, v1, v2, v3, v4] (.int y :: .int x :: .ref a :: st) h Q = mr_si (h.1 a) x y (fun c => mr_wp 175 16 [v0, v1, v2, v3, v4] st (mr_up h a c) Q)) ∧
    (∀ (v2 v3 v4 : Value) (x : Int32) (w0 : Nat) (st : List Value) (h : mr_h) (Q : Option Value → mr_h → Prop), mr_wp 175 16 [.ref w0, .int x, v2, v3, v4] st h Q = mr_wp 175 19 [.ref w0, .int (x + (1)), v2, v3, v4] st h Q) ∧
    (∀ (v0 v1 v2 v3 v4 : Value) (st : List Value) (h : mr_h) (Q : Option Value → mr_h → Prop), mr_wp 175 19 [v0, v1, v2, v3, v4] st h Q = mr_wp 175 2 [v0, v1, v2, v3, v4] st h Q) ∧
    (∀ (v1 v2 v3 v4 : Value) (x : Nat) (st : List Value) (h : mr_h) (Q : Option Value → mr_h → Prop), mr_wp 175 22 [.ref x, v1, v2, v3, v4] st h Q = mr_wp 175 23 [.ref x, v1, v2, v3, v4] (.ref x :: st) h Q) ∧
    (∀ (v0 v1 v2 v3 v4 : Value) (st : List Value) (h : mr_h) (Q : Option Value → mr_h → Prop), mr_wp 175 23 [v0, v1, v2, v3, v4] st h Q = mr_wp 175 25 [v0, v1, v2, v3, v4] (.int (-9) :: st) h Q) ∧
    (∀ (v0 v1 v2 v3 v4 : Value) (a : Nat) (x : Int32) (st : List Value) (h : mr_h) (Q : Option Value → mr_h → Prop), mr_wp 175 25 [v0, v1, v2, v3, v4] (.int x :: .ref a :: st) h Q = mr_pf (h.1 a) 11 27 (.int x) (fun c => mr_wp 175 28 [v0, v1, v2, v3, v4] st (mr_up h a c) Q)) ∧
    (∀ (v0 v1 v2 v3 v4 : Value) (st : List Value) (h : mr_h) (Q : Option Value → mr_h → Prop), mr_wp 175 28 [v0, v1, v2, v3, v4] st h Q = mr_wp 175 29 [v0, v1, v2, v3, v4] (.int (0) :: st) h Q) ∧
    (∀ (v1 v2 v3 v4 : Value) (w0 : Nat) (x : Int32) (st : List Value) (h : mr_h) (Q : Option Value → mr_h → Prop), mr_wp 175 29 [.ref w0, v1, v2, v3, v4] (.int x :: st) h Q = mr_wp 175 30 [.ref w0, .int x, v2, v3, v4] st h Q) ∧
    (∀ (v0 v1 v2 v3 v4 : Value) (st : List Value) (h : mr_h) (Q : Option Value → mr_h → Prop), mr_wp 175 30 [v0, v1, v2, v3, v4] st h Q = mr_wp 175 31 [v0, v1, v2, v3, v4] (.int (0) :: st) h Q) ∧
    (∀ (v0 v2 v3 v4 : Value) (w1 : Int32) (x : Int32) (st : List Value) (h : mr_h) (Q : Option Value → mr_h → Prop), mr_wp 175 31 [v0, .int w1, v2, v3, v4] (.int x :: st) h Q = mr_wp 175 32 [v0, .int w1, .int x, v3, v4] st h Q) ∧
    (∀ (v1 v2 v3 v4 : Value) (x : Nat) (st : List Value) (h : mr_h) (Q : Option Value → mr_h → Prop), mr_wp 175 33 [.ref x, v1, v2, v3, v4] st h Q = mr_wp 175 34 [.ref x, v1, v2, v3, v4] (.ref x :: st) h Q) ∧
    (∀ (v0 v1 v2 v3 v4 : Value) (a : Nat) (st : List Value) (h : mr_h) (Q : Option Value → mr_h → Prop), mr_wp 175 34 [v0, v1, v2, v3, v4] (.ref a :: st) h Q = mr_gf (h.1 a) 11 8 (fun v => mr_wp 175 37 [v0, v1, v2, v3, v4] (v :: st) h Q)) ∧
    (∀ (v0 v1 v2 v3 v4 : Value) (x : Int32) (y : Int32) (st : List Value) (h : mr_h) (Q : Option Value → mr_h → Prop), mr_wp 175 37 [v0, v1, v2, v3, v4] (.int y :: .int x :: st) h Q = if y ≤ x then mr_wp 175 176 [v0, v1, v2, v3, v4] st h Q else mr_wp 175 40 [v0, v1, v2, v3, v4] st h Q) ∧
    (∀ (v0 v1 v2 v3 v4 : Value) (st : List Value) (h : mr_h) (Q : Option Value → mr_h → Prop), mr_wp 175 40 [v0, v1, v2, v3, v4] st h Q = mr_wp 175 41 [v0, v1, v2, v3, v4] (.int (0) :: st) h Q) ∧
    (∀ (v0 v1 v3 v4 : Value) (w2 : Int32) (x : Int32) (st : List Value) (h : mr_h) (Q : Option Value → mr_h → Prop), mr_wp 175 41 [v0, v1, .int w2, v3, v4] (.int x :: st) h Q = mr_wp 175 42 [v0, v1, .int w2, .int x, v4] st h Q) ∧
    (∀ (v1 v2 v3 v4 : Value) (x : Nat) (st : List Value) (h : mr_h) (Q : Option Value → mr_h → Prop), mr_wp 175 43 [.ref x, v1, v2, v3, v4] st h Q = mr_wp 175 44 [.ref x, v1, v2, v3, v4] (.ref x :: st) h Q) ∧
    (∀ (v0 v1 v2 v3 v4 : Value) (a : Nat) (st : List Value) (h : mr_h) (Q : Option Value → mr_h → Prop), mr_wp 175 44 [v0, v1, v2, v3, v4] (.ref a :: st) h Q = mr_gf (h.1 a) 11 8 (fun v => mr_wp 175 47 [v0, v1, v2, v3, v4] (v :: st) h Q)) ∧
    (∀ (v0 v1 v2 v3 v4 : Value) (x : Int32) (y : Int32) (st : List Value) (h : mr_h) (Q : Option Value → mr_h → Prop), mr_wp 175 47 [v0, v1, v2, v3, v4] (.int y :: .int x :: st) h Q = if y ≤ x then mr_wp 175 170 [v0, v1, v2, v3, v4] st h Q else mr_wp 175 50 [v0, v1, v2, v3, v4] st h Q) ∧
    (∀ (v0 v1 v3 v4 : Value) (x : Int32) (st : List Value) (h : mr_h) (Q : Option Value → mr_h → Prop), mr_wp 175 50 [v0, v1, .int x, v3, v4] st h Q = mr_wp 175 51 [v0, v1, .int x, v3, v4] (.int x :: st) h Q) ∧
    (∀ (v0 v1 v2 v4 : Value) (x : Int32) (st : List Value) (h : mr_h) (Q : Option Value → mr_h → Prop), mr_wp 175 51 [v0, v1, v2, .int x, v4] st h Q = mr_wp 175 52 [v0, v1, v2, .int x, v4] (.int x :: st) h Q) ∧
    (∀ (v0 v1 v2 v3 v4 : Value) (x : Int32) (y : Int32) (st : List Value) (h : mr_h) (Q : Option Value → mr_h → Prop), mr_wp 175 52 [v0, v1, v2, v3, v4] (.int y :: .int x :: st) h Q = if x = y then mr_wp 175 164 [v0, v1, v2, v3, v4] st h Q else mr_wp 175 55 [v0, v1, v2, v3, v4] st h Q) ∧
    (∀ (v1 v2 v3 v4 : Value) (x : Nat) (st : List Value) (h : mr_h) (Q : Option Value → mr_h → Prop), mr_wp 175 55 [.ref x, v1, v2, v3, v4] st h Q = mr_wp 175 56 [.ref x, v1, v2, v3, v4] (.ref x :: st) h Q) ∧
    (∀ (v0 v1 v2 v3 v4 : Value) (a : Nat) (st : List Value) (h : mr_h) (Q : Option Value → mr_h → Prop), mr_wp 175 56 [v0, v1, v2, v3, v4] (.ref a :: st) h Q = mr_gf (h.1 a) 11 12 (fun v => mr_wp 175 59 [v0, v1, v2, v3, v4] (v :: st) h Q)) ∧
    (∀ (v0 v1 v2 v3 v4 : Value) (st : List Value) (h : mr_h) (Q : Option Value → mr_h → Prop), mr_wp 175 59 [v0, v1, v2, v3, v4] st h Q = mr_wp 175 60 [v0, v1, v2, v3, v4] (.int (0) :: st) h Q) ∧
    (∀ (v0 v1 v3 v4 : Value) (x : Int32) (st : List Value) (h : mr_h) (Q : Option Value → mr_h → Prop), mr_wp 175 60 [v0, v1, .int x, v3, v4] st h Q = mr_wp 175 61 [v0, v1, .int x, v3, v4] (.int x :: st) h Q) ∧
    (∀ (v0 v1 v2 v3 v4 : Value) (x : Int32) (y : Int32) (st : List Value) (h : mr_h) (Q : Option Value → mr_h → Prop), mr_wp 175 61 [v0, v1, v2, v3, v4] (.int y :: .int x :: st) h Q = mr_wp 175 62 [v0, v1, v2, v3, v4] (.int (x + y) :: st) h Q) ∧
    (∀ (v0 v1 v2 v3 v4 : Value) (a : Nat) (x : Int32) (st : List Value) (h : mr_h) (Q : Option Value → mr_h → Prop), mr_wp 175 62 [v0, v1, v2, v3, v4] (.int x :: .ref a :: st) h Q = mr_ai (h.1 a) x (fun v => mr_wp 175 63 [v0, v1, v2, v3, v4] (.int v :: st) h Q)) ∧
    (∀ (v0 v1 v2 v4 : Value) (x : Int32) (st : List Value) (h : mr_h) (Q : Option Value → mr_h → Prop), mr_wp 175 63 [v0, v1, v2, .int x, v4] st h Q = mr_wp 175 64 [v0, v1, v2, .int x, v4] (.int x :: st) h Q) ∧
    (∀ (v0 v1 v2 v3 v4 : Value) (a0 : Int32) (a1 : Int32) (h : mr_h) (Q : Option Value → mr_h → Prop), mr_wp 175 64 [v0, v1, v2, v3, v4] [.int a1, .int a0] h Q = mr_run 130 [.int a0, .int a1] h (fun v h' => mr_wp 175 67 [v0, v1, v2, v3, v4] (v.toList ++ []) h' Q)) ∧
    (∀ (v0 v1 v2 v3 v4 : Value) (x : Int32) (st : List Value) (h : mr_h) (Q : Option Value → mr_h → Prop), mr_wp 175 67 [v0, v1, v2, v3, v4] (.int x :: st) h Q = if ¬ x = 0 then mr_wp 175 164 [v0, v1, v2, v3, v4] st h Q else mr_wp 175 70 [v0, v1, v2, v3, v4] st h Q) ∧
    (∀ (v1 v2 v3 v4 : Value) (x : Nat) (st : List Value) (h : mr_h) (Q : Option Value → mr_h → Prop), mr_wp 175 70 [.ref x, v1, v2, v3, v4] st h Q = mr_wp 175 71 [.ref x, v1, v2, v3, v4] (.ref x :: st) h Q) ∧
    (∀ (v0 v1 v3 v4 : Value) (x : Int32) (st : List Value) (h : mr_h) (Q : Option Value → mr_h → Prop), mr_wp 175 71 [v0, v1, .int x, v3, v4] st h Q = mr_wp 175 72 [v0, v1, .int x, v3, v4] (.int x :: st) h Q) :=
  ⟨fun v0 v1 v2 v3 v4 st h Q => gx_one (i := .iconst 0) (len := 1) (by decide +kernel) rfl,
   fun v1 v2 v3 v4 w0 x st h Q => gx_one (i := .istore_n 1) (len := 1) (by decide +kernel) rfl,
   fun v0 v1 v2 v3 v4 st h Q => gx_one (i := .sipush 144) (len := 3) (by decide +kernel) rfl,
   fun v0 v1 v2 v3 v4 x y st h Q => gx_br (i := .if_icmp .ge 16) (len := 3) (c := .ge) (by decide +kernel) rfl rfl,
   fun v1 v2 v3 v4 x st h Q => gx_one (i := .aload_n 0) (len := 1) (by decide +kernel) rfl,
   fun v0 v1 v2 v3 v4 a st h Q => gx_get (x := 53) (by decide +kernel) (by decide +kernel),
   fun v0 v2 v3 v4 x st h Q => gx_one (i := .iload_n 1) (len := 1) (by decide +kernel) rfl,
   fun v0 v1 v2 v3 v4 st h Q => gx_one (i := .iconst 0) (len := 1) (by decide +kernel) rfl,
   fun v0 v1 v2 v3 v4 a x y st h Q => gx_iast (by decide +kernel),
   fun v2 v3 v4 x w0 st h Q => gx_one (i := .iinc 1 1) (len := 3) (by decide +kernel) rfl,
   fun v0 v1 v2 v3 v4 st h Q => gx_one (i := .goto (-17)) (len := 3) (by decide +kernel) rfl,
   fun v1 v2 v3 v4 x st h Q => gx_one (i := .aload_n 0) (len := 1) (by decide +kernel) rfl,
   fun v0 v1 v2 v3 v4 st h Q => gx_one (i := .bipush (-9)) (len := 2) (by decide +kernel) rfl,
   fun v0 v1 v2 v3 v4 a x st h Q => gx_put (x := 219) (by decide +kernel) (by decide +kernel) ⟨rfl, Or.inl rfl⟩,
   fun v0 v1 v2 v3 v4 st h Q => gx_one (i := .iconst 0) (len := 1) (by decide +kernel) rfl,
   fun v1 v2 v3 v4 w0 x st h Q => gx_one (i := .istore_n 1) (len := 1) (by decide +kernel) rfl,
   fun v0 v1 v2 v3 v4 st h Q => gx_one (i := .iconst 0) (len := 1) (by decide +kernel) rfl,
   fun v0 v2 v3 v4 w1 x st h Q => gx_one (i := .istore_n 2) (len := 1) (by decide +kernel) rfl,
   fun v1 v2 v3 v4 x st h Q => gx_one (i := .aload_n 0) (len := 1) (by decide +kernel) rfl,
   fun v0 v1 v2 v3 v4 a st h Q => gx_get (x := 123) (by decide +kernel) (by decide +kernel),
   fun v0 v1 v2 v3 v4 x y st h Q => gx_br (i := .if_icmp .ge 139) (len := 3) (c := .ge) (by decide +kernel) rfl rfl,
   fun v0 v1 v2 v3 v4 st h Q => gx_one (i := .iconst 0) (len := 1) (by decide +kernel) rfl,
   fun v0 v1 v3 v4 w2 x st h Q => gx_one (i := .istore_n 3) (len := 1) (by decide +kernel) rfl,
   fun v1 v2 v3 v4 x st h Q => gx_one (i := .aload_n 0) (len := 1) (by decide +kernel) rfl,
   fun v0 v1 v2 v3 v4 a st h Q => gx_get (x := 123) (by decide +kernel) (by decide +kernel),
   fun v0 v1 v2 v3 v4 x y st h Q => gx_br (i := .if_icmp .ge 123) (len := 3) (c := .ge) (by decide +kernel) rfl rfl,
   fun v0 v1 v3 v4 x st h Q => gx_one (i := .iload_n 2) (len := 1) (by decide +kernel) rfl,
   fun v0 v1 v2 v4 x st h Q => gx_one (i := .iload_n 3) (len := 1) (by decide +kernel) rfl,
   fun v0 v1 v2 v3 v4 x y st h Q => gx_br (i := .if_icmp .eq 112) (len := 3) (c := .eq) (by decide +kernel) rfl rfl,
   fun v1 v2 v3 v4 x st h Q => gx_one (i := .aload_n 0) (len := 1) (by decide +kernel) rfl,
   fun v0 v1 v2 v3 v4 a st h Q => gx_get (x := 16) (by decide +kernel) (by decide +kernel),
   fun v0 v1 v2 v3 v4 st h Q => gx_one (i := .iconst 0) (len := 1) (by decide +kernel) rfl,
   fun v0 v1 v3 v4 x st h Q => gx_one (i := .iload_n 2) (len := 1) (by decide +kernel) rfl,
   fun v0 v1 v2 v3 v4 x y st h Q => gx_one (i := .iadd) (len := 1) (by decide +kernel) rfl,
   fun v0 v1 v2 v3 v4 a x st h Q => gx_iald (by decide +kernel),
   fun v0 v1 v2 v4 x st h Q => gx_one (i := .iload_n 3) (len := 1) (by decide +kernel) rfl,
   fun v0 v1 v2 v3 v4 a0 a1 h Q => gx_stat (x := 116) (t := 130) (n := 2) (by decide +kernel) (by decide +kernel) (by decide) (by decide +kernel) rfl (Or.inl (Nat.le_of_ble_eq_true rfl)) (by show _ ≤ mr_mxl 130; rw [show mr_mxl 130 = 2 from by decide +kernel]; exact Nat.le_of_ble_eq_true rfl),
   fun v0 v1 v2 v3 v4 x st h Q => gx_br (i := .ifCond .ne 97) (len := 3) (c := .ne) (by decide +kernel) rfl rfl,
   fun v1 v2 v3 v4 x st h Q => gx_one (i := .aload_n 0) (len := 1) (by decide +kernel) rfl,
   fun v0 v1 v3 v4 x st h Q => gx_one (i := .iload_n 2) (len := 1) (by decide +kernel) rfl⟩
theorem S_mo_unseenMany_1 : (∀ (v0 v1 v2 v4 : Value) (x : Int32) (st : List Value) (h : mr_h) (Q : Option Value → mr_h → Prop), mr_wp 175 72 [v0, v1, v2, .int x, v4] st h Q = mr_wp 175 73 [v0, v1, v2, .int x, v4] (.int x :: st) h Q) ∧
    (∀ (v0 v1 v2 v3 v4 : Value) (a0 : Int32) (a1 : Int32) (o : Nat) (h : mr_h) (Q : Option Value → mr_h → Prop), mr_wp 175 73 [v0, v1, v2, v3, v4] [.int a1, .int a0, .ref o] h Q = mr_rc (h.1 o) 11 (mr_run 176 [.ref o, .int a0, .int a1] h (fun v h' => mr_wp 175 76 [v0, v1, v2, v3, v4] (v.toList ++ []) h' Q))) ∧
    (∀ (v0 v1 v2 v3 v4 : Value) (x : Int32) (st : List Value) (h : mr_h) (Q : Option Value → mr_h → Prop), mr_wp 175 76 [v0, v1, v2, v3, v4] (.int x :: st) h Q = if x = 0 then mr_wp 175 164 [v0, v1, v2, v3, v4] st h Q else mr_wp 175 79 [v0, v1, v2, v3, v4] st h Q) ∧
    (∀ (v1 v2 v3 v4 : Value) (x : Nat) (st : List Value) (h : mr_h) (Q : Option Value → mr_h → Prop), mr_wp 175 79 [.ref x, v1, v2, v3, v4] st h Q = mr_wp 175 80 [.ref x, v1, v2, v3, v4] (.ref x :: st) h Q) ∧
    (∀ (v0 v2 v3 v4 : Value) (x : Int32) (st : List Value) (h : mr_h) (Q : Option Value → mr_h → Prop), mr_wp 175 80 [v0, .int x, v2, v3, v4] st h Q = mr_wp 175 81 [v0, .int x, v2, v3, v4] (.int x :: st) h Q) ∧
    (∀ (v0 v1 v2 v3 v4 : Value) (x : Int32) (st : List Value) (h : mr_h) (Q : Option Value → mr_h → Prop), mr_wp 175 81 [v0, v1, v2, v3, v4] (.int x :: st) h Q = if ¬ x = 0 then mr_wp 175 93 [v0, v1, v2, v3, v4] st h Q else mr_wp 175 84 [v0, v1, v2, v3, v4] st h Q) ∧
    (∀ (v0 v1 v2 v3 v4 : Value) (st : List Value) (h : mr_h) (Q : Option Value → mr_h → Prop), mr_wp 175 84 [v0, v1, v2, v3, v4] st h Q = mr_wp 175 86 [v0, v1, v2, v3, v4] (.int (16) :: st) h Q) ∧
    (∀ (v0 v1 v3 v4 : Value) (x : Int32) (st : List Value) (h : mr_h) (Q : Option Value → mr_h → Prop), mr_wp 175 86 [v0, v1, .int x, v3, v4] st h Q = mr_wp 175 87 [v0, v1, .int x, v3, v4] (.int x :: st) h Q) ∧
    (∀ (v0 v1 v2 v3 v4 : Value) (x : Int32) (y : Int32) (st : List Value) (h : mr_h) (Q : Option Value → mr_h → Prop), mr_wp 175 87 [v0, v1, v2, v3, v4] (.int y :: .int x :: st) h Q = mr_wp 175 88 [v0, v1, v2, v3, v4] (.int (x * y) :: st) h Q) ∧
    (∀ (v0 v1 v2 v4 : Value) (x : Int32) (st : List Value) (h : mr_h) (Q : Option Value → mr_h → Prop), mr_wp 175 88 [v0, v1, v2, .int x, v4] st h Q = mr_wp 175 89 [v0, v1, v2, .int x, v4] (.int x :: st) h Q) ∧
    (∀ (v0 v1 v2 v3 v4 : Value) (x : Int32) (y : Int32) (st : List Value) (h : mr_h) (Q : Option Value → mr_h → Prop), mr_wp 175 89 [v0, v1, v2, v3, v4] (.int y :: .int x :: st) h Q = mr_wp 175 90 [v0, v1, v2, v3, v4] (.int (x + y) :: st) h Q) ∧
    (∀ (v0 v1 v2 v3 v4 : Value) (st : List Value) (h : mr_h) (Q : Option Value → mr_h → Prop), mr_wp 175 90 [v0, v1, v2, v3, v4] st h Q = mr_wp 175 97 [v0, v1, v2, v3, v4] st h Q) ∧
    (∀ (v1 v2 v3 v4 : Value) (x : Nat) (st : List Value) (h : mr_h) (Q : Option Value → mr_h → Prop), mr_wp 175 93 [.ref x, v1, v2, v3, v4] st h Q = mr_wp 175 94 [.ref x, v1, v2, v3, v4] (.ref x :: st) h Q) ∧
    (∀ (v0 v1 v2 v3 v4 : Value) (a : Nat) (st : List Value) (h : mr_h) (Q : Option Value → mr_h → Prop), mr_wp 175 94 [v0, v1, v2, v3, v4] (.ref a :: st) h Q = mr_gf (h.1 a) 11 27 (fun v => mr_wp 175 97 [v0, v1, v2, v3, v4] (v :: st) h Q)) ∧
    (∀ (v0 v1 v2 v3 v4 : Value) (a : Nat) (x : Int32) (st : List Value) (h : mr_h) (Q : Option Value → mr_h → Prop), mr_wp 175 97 [v0, v1, v2, v3, v4] (.int x :: .ref a :: st) h Q = mr_pf (h.1 a) 11 27 (.int x) (fun c => mr_wp 175 100 [v0, v1, v2, v3, v4] st (mr_up h a c) Q)) ∧
    (∀ (v2 v3 v4 : Value) (x : Int32) (w0 : Nat) (st : List Value) (h : mr_h) (Q : Option Value → mr_h → Prop), mr_wp 175 100 [.ref w0, .int x, v2, v3, v4] st h Q = mr_wp 175 103 [.ref w0, .int (x + (1)), v2, v3, v4] st h Q) ∧
    (∀ (v0 v1 v2 v3 v4 : Value) (st : List Value) (h : mr_h) (Q : Option Value → mr_h → Prop), mr_wp 175 103 [v0, v1, v2, v3, v4] st h Q = mr_wp 175 104 [v0, v1, v2, v3, v4] (.int (0) :: st) h Q) ∧
    (∀ (v0 v1 v2 v4 : Value) (w3 : Int32) (x : Int32) (st : List Value) (h : mr_h) (Q : Option Value → mr_h → Prop), mr_wp 175 104 [v0, v1, v2, .int w3, v4] (.int x :: st) h Q = mr_wp 175 106 [v0, v1, v2, .int w3, .int x] st h Q) ∧
    (∀ (v0 v1 v2 v3 v4 : Value) (st : List Value) (h : mr_h) (Q : Option Value → mr_h → Prop), mr_wp 175 108 [v0, v1, v2, v3, v4] st h Q = mr_wp 175 111 [v0, v1, v2, v3, v4] (.int (144) :: st) h Q) ∧
    (∀ (v0 v1 v2 v3 v4 : Value) (x : Int32) (y : Int32) (st : List Value) (h : mr_h) (Q : Option Value → mr_h → Prop), mr_wp 175 111 [v0, v1, v2, v3, v4] (.int y :: .int x :: st) h Q = if y ≤ x then mr_wp 175 164 [v0, v1, v2, v3, v4] st h Q else mr_wp 175 114 [v0, v1, v2, v3, v4] st h Q) ∧
    (∀ (v1 v2 v3 v4 : Value) (x : Nat) (st : List Value) (h : mr_h) (Q : Option Value → mr_h → Prop), mr_wp 175 114 [.ref x, v1, v2, v3, v4] st h Q = mr_wp 175 115 [.ref x, v1, v2, v3, v4] (.ref x :: st) h Q) ∧
    (∀ (v0 v1 v2 v3 v4 : Value) (a : Nat) (st : List Value) (h : mr_h) (Q : Option Value → mr_h → Prop), mr_wp 175 115 [v0, v1, v2, v3, v4] (.ref a :: st) h Q = mr_gf (h.1 a) 11 26 (fun v => mr_wp 175 118 [v0, v1, v2, v3, v4] (v :: st) h Q)) ∧
    (∀ (v0 v1 v2 v3 : Value) (x : Int32) (st : List Value) (h : mr_h) (Q : Option Value → mr_h → Prop), mr_wp 175 118 [v0, v1, v2, v3, .int x] st h Q = mr_wp 175 120 [v0, v1, v2, v3, .int x] (.int x :: st) h Q) ∧
    (∀ (v0 v1 v2 v3 v4 : Value) (x : Int32) (y : Nat) (st : List Value) (h : mr_h) (Q : Option Value → mr_h → Prop), mr_wp 175 120 [v0, v1, v2, v3, v4] (.int x :: .ref y :: st) h Q = mr_wp 175 121 [v0, v1, v2, v3, v4] (.int x :: .ref y :: .int x :: .ref y :: st) h Q) ∧
    (∀ (v0 v1 v2 v3 v4 : Value) (a : Nat) (x : Int32) (st : List Value) (h : mr_h) (Q : Option Value → mr_h → Prop), mr_wp 175 121 [v0, v1, v2, v3, v4] (.int x :: .ref a :: st) h Q = mr_ai (h.1 a) x (fun v => mr_wp 175 122 [v0, v1, v2, v3, v4] (.int v :: st) h Q)) ∧
    (∀ (v0 v1 v2 v3 : Value) (x : Int32) (st : List Value) (h : mr_h) (Q : Option Value → mr_h → Prop), mr_wp 175 122 [v0, v1, v2, v3, .int x] st h Q = mr_wp 175 124 [v0, v1, v2, v3, .int x] (.int x :: st) h Q) ∧
    (∀ (v0 v1 v2 v3 v4 : Value) (st : List Value) (h : mr_h) (Q : Option Value → mr_h → Prop), mr_wp 175 124 [v0, v1, v2, v3, v4] st h Q = mr_wp 175 126 [v0, v1, v2, v3, v4] (.int (12) :: st) h Q) ∧
    (∀ (v0 v1 v2 v3 v4 : Value) (x : Int32) (y : Int32) (st : List Value) (h : mr_h) (Q : Option Value → mr_h → Prop) (hv : ¬ y = 0), mr_wp 175 126 [v0, v1, v2, v3, v4] (.int y :: .int x :: st) h Q = mr_wp 175 127 [v0, v1, v2, v3, v4] (.int (x / y) :: st) h Q) ∧
    (∀ (v1 v2 v3 v4 : Value) (x : Nat) (st : List Value) (h : mr_h) (Q : Option Value → mr_h → Prop), mr_wp 175 127 [.ref x, v1, v2, v3, v4] st h Q = mr_wp 175 128 [.ref x, v1, v2, v3, v4] (.ref x :: st) h Q) ∧
    (∀ (v0 v1 v2 v3 v4 : Value) (a : Nat) (st : List Value) (h : mr_h) (Q : Option Value → mr_h → Prop), mr_wp 175 128 [v0, v1, v2, v3, v4] (.ref a :: st) h Q = mr_gf (h.1 a) 11 8 (fun v => mr_wp 175 131 [v0, v1, v2, v3, v4] (v :: st) h Q)) ∧
    (∀ (v0 v1 v2 v3 v4 : Value) (x : Int32) (y : Int32) (st : List Value) (h : mr_h) (Q : Option Value → mr_h → Prop), mr_wp 175 131 [v0, v1, v2, v3, v4] (.int y :: .int x :: st) h Q = if y ≤ x then mr_wp 175 155 [v0, v1, v2, v3, v4] st h Q else mr_wp 175 134 [v0, v1, v2, v3, v4] st h Q) ∧
    (∀ (v1 v2 v3 v4 : Value) (x : Nat) (st : List Value) (h : mr_h) (Q : Option Value → mr_h → Prop), mr_wp 175 134 [.ref x, v1, v2, v3, v4] st h Q = mr_wp 175 135 [.ref x, v1, v2, v3, v4] (.ref x :: st) h Q) ∧
    (∀ (v0 v1 v2 v3 v4 : Value) (a : Nat) (st : List Value) (h : mr_h) (Q : Option Value → mr_h → Prop), mr_wp 175 135 [v0, v1, v2, v3, v4] (.ref a :: st) h Q = mr_gf (h.1 a) 11 23 (fun v => mr_wp 175 138 [v0, v1, v2, v3, v4] (v :: st) h Q)) ∧
    (∀ (v0 v1 v2 v3 : Value) (x : Int32) (st : List Value) (h : mr_h) (Q : Option Value → mr_h → Prop), mr_wp 175 138 [v0, v1, v2, v3, .int x] st h Q = mr_wp 175 140 [v0, v1, v2, v3, .int x] (.int x :: st) h Q) ∧
    (∀ (v0 v1 v2 v3 v4 : Value) (st : List Value) (h : mr_h) (Q : Option Value → mr_h → Prop), mr_wp 175 140 [v0, v1, v2, v3, v4] st h Q = mr_wp 175 142 [v0, v1, v2, v3, v4] (.int (12) :: st) h Q) ∧
    (∀ (v0 v1 v2 v3 v4 : Value) (x : Int32) (y : Int32) (st : List Value) (h : mr_h) (Q : Option Value → mr_h → Prop) (hv : ¬ y = 0), mr_wp 175 142 [v0, v1, v2, v3, v4] (.int y :: .int x :: st) h Q = mr_wp 175 143 [v0, v1, v2, v3, v4] (.int (x / y) :: st) h Q) ∧
    (∀ (v0 v1 v2 v3 v4 : Value) (a : Nat) (x : Int32) (st : List Value) (h : mr_h) (Q : Option Value → mr_h → Prop), mr_wp 175 143 [v0, v1, v2, v3, v4] (.int x :: .ref a :: st) h Q = mr_ai (h.1 a) x (fun v => mr_wp 175 144 [v0, v1, v2, v3, v4] (.int v :: st) h Q)) ∧
    (∀ (v0 v1 v2 v3 : Value) (x : Int32) (st : List Value) (h : mr_h) (Q : Option Value → mr_h → Prop), mr_wp 175 144 [v0, v1, v2, v3, .int x] st h Q = mr_wp 175 146 [v0, v1, v2, v3, .int x] (.int x :: st) h Q) ∧
    (∀ (v0 v1 v2 v3 v4 : Value) (st : List Value) (h : mr_h) (Q : Option Value → mr_h → Prop), mr_wp 175 146 [v0, v1, v2, v3, v4] st h Q = mr_wp 175 148 [v0, v1, v2, v3, v4] (.int (12) :: st) h Q) ∧
    (∀ (v0 v1 v2 v3 v4 : Value) (x : Int32) (y : Int32) (st : List Value) (h : mr_h) (Q : Option Value → mr_h → Prop) (hv : ¬ y = 0), mr_wp 175 148 [v0, v1, v2, v3, v4] (.int y :: .int x :: st) h Q = mr_wp 175 149 [v0, v1, v2, v3, v4] (.int (x - x / y * y) :: st) h Q) :=
  ⟨fun v0 v1 v2 v4 x st h Q => gx_one (i := .iload_n 3) (len := 1) (by decide +kernel) rfl,
   fun v0 v1 v2 v3 v4 a0 a1 o h Q => gx_virt (x := 222) (n := 2) (by decide +kernel) (by decide +kernel) rfl (Or.inl (Nat.le_of_ble_eq_true rfl)) (by show _ ≤ mr_mxl 176; rw [show mr_mxl 176 = 5 from by decide +kernel]; exact Nat.le_of_ble_eq_true rfl) (by decide +kernel),
   fun v0 v1 v2 v3 v4 x st h Q => gx_br (i := .ifCond .eq 88) (len := 3) (c := .eq) (by decide +kernel) rfl rfl,
   fun v1 v2 v3 v4 x st h Q => gx_one (i := .aload_n 0) (len := 1) (by decide +kernel) rfl,
   fun v0 v2 v3 v4 x st h Q => gx_one (i := .iload_n 1) (len := 1) (by decide +kernel) rfl,
   fun v0 v1 v2 v3 v4 x st h Q => gx_br (i := .ifCond .ne 12) (len := 3) (c := .ne) (by decide +kernel) rfl rfl,
   fun v0 v1 v2 v3 v4 st h Q => gx_one (i := .bipush 16) (len := 2) (by decide +kernel) rfl,
   fun v0 v1 v3 v4 x st h Q => gx_one (i := .iload_n 2) (len := 1) (by decide +kernel) rfl,
   fun v0 v1 v2 v3 v4 x y st h Q => gx_one (i := .imul) (len := 1) (by decide +kernel) rfl,
   fun v0 v1 v2 v4 x st h Q => gx_one (i := .iload_n 3) (len := 1) (by decide +kernel) rfl,
   fun v0 v1 v2 v3 v4 x y st h Q => gx_one (i := .iadd) (len := 1) (by decide +kernel) rfl,
   fun v0 v1 v2 v3 v4 st h Q => gx_one (i := .goto 7) (len := 3) (by decide +kernel) rfl,
   fun v1 v2 v3 v4 x st h Q => gx_one (i := .aload_n 0) (len := 1) (by decide +kernel) rfl,
   fun v0 v1 v2 v3 v4 a st h Q => gx_get (x := 219) (by decide +kernel) (by decide +kernel),
   fun v0 v1 v2 v3 v4 a x st h Q => gx_put (x := 219) (by decide +kernel) (by decide +kernel) ⟨rfl, Or.inl rfl⟩,
   fun v2 v3 v4 x w0 st h Q => gx_one (i := .iinc 1 1) (len := 3) (by decide +kernel) rfl,
   fun v0 v1 v2 v3 v4 st h Q => gx_one (i := .iconst 0) (len := 1) (by decide +kernel) rfl,
   fun v0 v1 v2 v4 w3 x st h Q => gx_one (i := .istore 4) (len := 2) (by decide +kernel) rfl,
   fun v0 v1 v2 v3 v4 st h Q => gx_one (i := .sipush 144) (len := 3) (by decide +kernel) rfl,
   fun v0 v1 v2 v3 v4 x y st h Q => gx_br (i := .if_icmp .ge 53) (len := 3) (c := .ge) (by decide +kernel) rfl rfl,
   fun v1 v2 v3 v4 x st h Q => gx_one (i := .aload_n 0) (len := 1) (by decide +kernel) rfl,
   fun v0 v1 v2 v3 v4 a st h Q => gx_get (x := 53) (by decide +kernel) (by decide +kernel),
   fun v0 v1 v2 v3 x st h Q => gx_one (i := .iload 4) (len := 2) (by decide +kernel) rfl,
   fun v0 v1 v2 v3 v4 x y st h Q => gx_one (i := .dup2) (len := 1) (by decide +kernel) rfl,
   fun v0 v1 v2 v3 v4 a x st h Q => gx_iald (by decide +kernel),
   fun v0 v1 v2 v3 x st h Q => gx_one (i := .iload 4) (len := 2) (by decide +kernel) rfl,
   fun v0 v1 v2 v3 v4 st h Q => gx_one (i := .bipush 12) (len := 2) (by decide +kernel) rfl,
   fun v0 v1 v2 v3 v4 x y st h Q hv => gx_one (i := .idiv) (len := 1) (by decide +kernel) (by simp only [mr_one]; rw [if_neg hv]; rfl),
   fun v1 v2 v3 v4 x st h Q => gx_one (i := .aload_n 0) (len := 1) (by decide +kernel) rfl,
   fun v0 v1 v2 v3 v4 a st h Q => gx_get (x := 123) (by decide +kernel) (by decide +kernel),
   fun v0 v1 v2 v3 v4 x y st h Q => gx_br (i := .if_icmp .ge 24) (len := 3) (c := .ge) (by decide +kernel) rfl rfl,
   fun v1 v2 v3 v4 x st h Q => gx_one (i := .aload_n 0) (len := 1) (by decide +kernel) rfl,
   fun v0 v1 v2 v3 v4 a st h Q => gx_get (x := 44) (by decide +kernel) (by decide +kernel),
   fun v0 v1 v2 v3 x st h Q => gx_one (i := .iload 4) (len := 2) (by decide +kernel) rfl,
   fun v0 v1 v2 v3 v4 st h Q => gx_one (i := .bipush 12) (len := 2) (by decide +kernel) rfl,
   fun v0 v1 v2 v3 v4 x y st h Q hv => gx_one (i := .idiv) (len := 1) (by decide +kernel) (by simp only [mr_one]; rw [if_neg hv]; rfl),
   fun v0 v1 v2 v3 v4 a x st h Q => gx_iald (by decide +kernel),
   fun v0 v1 v2 v3 x st h Q => gx_one (i := .iload 4) (len := 2) (by decide +kernel) rfl,
   fun v0 v1 v2 v3 v4 st h Q => gx_one (i := .bipush 12) (len := 2) (by decide +kernel) rfl,
   fun v0 v1 v2 v3 v4 x y st h Q hv => gx_one (i := .irem) (len := 1) (by decide +kernel) (by simp only [mr_one]; rw [if_neg hv]; rfl)⟩
theorem S_mo_unseenMany_2 : (∀ (v0 v1 v2 v3 v4 : Value) (x : Int32) (y : Int32) (st : List Value) (h : mr_h) (Q : Option Value → mr_h → Prop), mr_wp 175 149 [v0, v1, v2, v3, v4] (.int y :: .int x :: st) h Q = mr_wp 175 150 [v0, v1, v2, v3, v4] (.int (x >>> (y &&& 31)) :: st) h Q) ∧
    (∀ (v0 v1 v2 v3 v4 : Value) (st : List Value) (h : mr_h) (Q : Option Value → mr_h → Prop), mr_wp 175 150 [v0, v1, v2, v3, v4] st h Q = mr_wp 175 151 [v0, v1, v2, v3, v4] (.int (1) :: st) h Q) ∧
    (∀ (v0 v1 v2 v3 v4 : Value) (x : Int32) (y : Int32) (st : List Value) (h : mr_h) (Q : Option Value → mr_h → Prop), mr_wp 175 151 [v0, v1, v2, v3, v4] (.int y :: .int x :: st) h Q = mr_wp 175 152 [v0, v1, v2, v3, v4] (.int (x &&& y) :: st) h Q) ∧
    (∀ (v0 v1 v2 v3 v4 : Value) (st : List Value) (h : mr_h) (Q : Option Value → mr_h → Prop), mr_wp 175 152 [v0, v1, v2, v3, v4] st h Q = mr_wp 175 156 [v0, v1, v2, v3, v4] st h Q) ∧
    (∀ (v0 v1 v2 v3 v4 : Value) (st : List Value) (h : mr_h) (Q : Option Value → mr_h → Prop), mr_wp 175 155 [v0, v1, v2, v3, v4] st h Q = mr_wp 175 156 [v0, v1, v2, v3, v4] (.int (0) :: st) h Q) ∧
    (∀ (v0 v1 v2 v3 v4 : Value) (x : Int32) (y : Int32) (st : List Value) (h : mr_h) (Q : Option Value → mr_h → Prop), mr_wp 175 156 [v0, v1, v2, v3, v4] (.int y :: .int x :: st) h Q = mr_wp 175 157 [v0, v1, v2, v3, v4] (.int (x + y) :: st) h Q) ∧
    (∀ (v0 v1 v2 v3 v4 : Value) (a : Nat) (x : Int32) (y : Int32) (st : List Value) (h : mr_h) (Q : Option Value → mr_h → Prop), mr_wp 175 157 [v0, v1, v2, v3, v4] (.int y :: .int x :: .ref a :: st) h Q = mr_si (h.1 a) x y (fun c => mr_wp 175 158 [v0, v1, v2, v3, v4] st (mr_up h a c) Q)) ∧
    (∀ (v0 v1 v2 : Value) (x : Int32) (w3 : Int32) (st : List Value) (h : mr_h) (Q : Option Value → mr_h → Prop), mr_wp 175 158 [v0, v1, v2, .int w3, .int x] st h Q = mr_wp 175 161 [v0, v1, v2, .int w3, .int (x + (1))] st h Q) ∧
    (∀ (v0 v1 v2 v3 v4 : Value) (st : List Value) (h : mr_h) (Q : Option Value → mr_h → Prop), mr_wp 175 161 [v0, v1, v2, v3, v4] st h Q = mr_wp 175 106 [v0, v1, v2, v3, v4] st h Q) ∧
    (∀ (v0 v1 v4 : Value) (x : Int32) (w2 : Int32) (st : List Value) (h : mr_h) (Q : Option Value → mr_h → Prop), mr_wp 175 164 [v0, v1, .int w2, .int x, v4] st h Q = mr_wp 175 167 [v0, v1, .int w2, .int (x + (1)), v4] st h Q) ∧
    (∀ (v0 v1 v2 v3 v4 : Value) (st : List Value) (h : mr_h) (Q : Option Value → mr_h → Prop), mr_wp 175 167 [v0, v1, v2, v3, v4] st h Q = mr_wp 175 42 [v0, v1, v2, v3, v4] st h Q) ∧
    (∀ (v0 v3 v4 : Value) (x : Int32) (w1 : Int32) (st : List Value) (h : mr_h) (Q : Option Value → mr_h → Prop), mr_wp 175 170 [v0, .int w1, .int x, v3, v4] st h Q = mr_wp 175 173 [v0, .int w1, .int (x + (1)), v3, v4] st h Q) ∧
    (∀ (v0 v1 v2 v3 v4 : Value) (st : List Value) (h : mr_h) (Q : Option Value → mr_h → Prop), mr_wp 175 173 [v0, v1, v2, v3, v4] st h Q = mr_wp 175 32 [v0, v1, v2, v3, v4] st h Q) ∧
    (∀ (v0 v2 v3 v4 : Value) (x : Int32) (st : List Value) (h : mr_h) (Q : Option Value → mr_h → Prop), mr_wp 175 176 [v0, .int x, v2, v3, v4] st h Q = mr_wp 175 177 [v0, .int x, v2, v3, v4] (.int x :: st) h Q) ∧
    (∀ (v0 v1 v2 v3 v4 : Value) (x : Int32) (h : mr_h) (Q : Option Value → mr_h → Prop), mr_wp 175 177 [v0, v1, v2, v3, v4] [.int x] h Q = Q (some (.int x)) h) :=
  ⟨fun v0 v1 v2 v3 v4 x y st h Q => gx_one (i := .ishr) (len := 1) (by decide +kernel) rfl,
   fun v0 v1 v2 v3 v4 st h Q => gx_one (i := .iconst 1) (len := 1) (by decide +kernel) rfl,
   fun v0 v1 v2 v3 v4 x y st h Q => gx_one (i := .iand) (len := 1) (by decide +kernel) rfl,
   fun v0 v1 v2 v3 v4 st h Q => gx_one (i := .goto 4) (len := 3) (by decide +kernel) rfl,
   fun v0 v1 v2 v3 v4 st h Q => gx_one (i := .iconst 0) (len := 1) (by decide +kernel) rfl,
   fun v0 v1 v2 v3 v4 x y st h Q => gx_one (i := .iadd) (len := 1) (by decide +kernel) rfl,
   fun v0 v1 v2 v3 v4 a x y st h Q => gx_iast (by decide +kernel),
   fun v0 v1 v2 x w3 st h Q => gx_one (i := .iinc 4 1) (len := 3) (by decide +kernel) rfl,
   fun v0 v1 v2 v3 v4 st h Q => gx_one (i := .goto (-55)) (len := 3) (by decide +kernel) rfl,
   fun v0 v1 v4 x w2 st h Q => gx_one (i := .iinc 3 1) (len := 3) (by decide +kernel) rfl,
   fun v0 v1 v2 v3 v4 st h Q => gx_one (i := .goto (-125)) (len := 3) (by decide +kernel) rfl,
   fun v0 v3 v4 x w1 st h Q => gx_one (i := .iinc 2 1) (len := 3) (by decide +kernel) rfl,
   fun v0 v1 v2 v3 v4 st h Q => gx_one (i := .goto (-141)) (len := 3) (by decide +kernel) rfl,
   fun v0 v2 v3 v4 x st h Q => gx_one (i := .iload_n 1) (len := 1) (by decide +kernel) rfl,
   fun v0 v1 v2 v3 v4 x h Q => gx_ret (i := .ireturn) (len := 1) (by decide +kernel) rfl rfl (by simp only [mr_rt, if_pos]; rw [if_pos (Or.inl (by decide +kernel))])⟩

theorem s_mo_canBe_12 (v0 v1 v2 v3 : Value) (x : Int32) (st : List Value) (h : mr_h) (Q : Option Value → mr_h → Prop) : mr_wp 176 12 [v0, v1, v2, v3, .int x] st h Q = mr_wp 176 14 [v0, v1, v2, v3, .int x] (.int x :: st) h Q := gx_one (i := .iload 4) (len := 2) (by decide +kernel) rfl
theorem S_mo_canBe_0 : (∀ (v1 v2 v3 v4 : Value) (x : Nat) (st : List Value) (h : mr_h) (Q : Option Value → mr_h → Prop), mr_wp 176 0 [.ref x, v1, v2, v3, v4] st h Q = mr_wp 176 1 [.ref x, v1, v2, v3, v4] (.ref x :: st) h Q) ∧
    (∀ (v0 v2 v3 v4 : Value) (x : Int32) (st : List Value) (h : mr_h) (Q : Option Value → mr_h → Prop), mr_wp 176 1 [v0, .int x, v2, v3, v4] st h Q = mr_wp 176 2 [v0, .int x, v2, v3, v4] (.int x :: st) h Q) ∧
    (∀ (v0 v1 v3 v4 : Value) (x : Int32) (st : List Value) (h : mr_h) (Q : Option Value → mr_h → Prop), mr_wp 176 2 [v0, v1, .int x, v3, v4] st h Q = mr_wp 176 3 [v0, v1, .int x, v3, v4] (.int x :: st) h Q) ∧
    (∀ (v0 v1 v2 v3 v4 : Value) (a0 : Int32) (a1 : Int32) (o : Nat) (h : mr_h) (Q : Option Value → mr_h → Prop), mr_wp 176 3 [v0, v1, v2, v3, v4] [.int a1, .int a0, .ref o] h Q = mr_rc (h.1 o) 11 (mr_run 152 [.ref o, .int a0, .int a1] h (fun v h' => mr_wp 176 6 [v0, v1, v2, v3, v4] (v.toList ++ []) h' Q))) ∧
    (∀ (v0 v1 v2 v3 v4 : Value) (x : Int32) (st : List Value) (h : mr_h) (Q : Option Value → mr_h → Prop), mr_wp 176 6 [v0, v1, v2, v3, v4] (.int x :: st) h Q = mr_wp 176 7 [v0, v1, v2, v3, v4] st h Q) ∧
    (∀ (v0 v1 v2 v3 v4 : Value) (st : List Value) (h : mr_h) (Q : Option Value → mr_h → Prop), mr_wp 176 7 [v0, v1, v2, v3, v4] st h Q = mr_wp 176 8 [v0, v1, v2, v3, v4] (.int (1) :: st) h Q) ∧
    (∀ (v0 v1 v3 v4 : Value) (w2 : Int32) (x : Int32) (st : List Value) (h : mr_h) (Q : Option Value → mr_h → Prop), mr_wp 176 8 [v0, v1, .int w2, v3, v4] (.int x :: st) h Q = mr_wp 176 9 [v0, v1, .int w2, .int x, v4] st h Q) ∧
    (∀ (v0 v1 v2 v3 v4 : Value) (st : List Value) (h : mr_h) (Q : Option Value → mr_h → Prop), mr_wp 176 9 [v0, v1, v2, v3, v4] st h Q = mr_wp 176 10 [v0, v1, v2, v3, v4] (.int (0) :: st) h Q) ∧
    (∀ (v0 v1 v2 v4 : Value) (w3 : Int32) (x : Int32) (st : List Value) (h : mr_h) (Q : Option Value → mr_h → Prop), mr_wp 176 10 [v0, v1, v2, .int w3, v4] (.int x :: st) h Q = mr_wp 176 12 [v0, v1, v2, .int w3, .int x] st h Q) ∧
    (∀ (v1 v2 v3 v4 : Value) (x : Nat) (st : List Value) (h : mr_h) (Q : Option Value → mr_h → Prop), mr_wp 176 14 [.ref x, v1, v2, v3, v4] st h Q = mr_wp 176 15 [.ref x, v1, v2, v3, v4] (.ref x :: st) h Q) ∧
    (∀ (v0 v1 v2 v3 v4 : Value) (a : Nat) (st : List Value) (h : mr_h) (Q : Option Value → mr_h → Prop), mr_wp 176 15 [v0, v1, v2, v3, v4] (.ref a :: st) h Q = mr_gf (h.1 a) 11 21 (fun v => mr_wp 176 18 [v0, v1, v2, v3, v4] (v :: st) h Q)) ∧
    (∀ (v0 v1 v2 v3 v4 : Value) (x : Int32) (y : Int32) (st : List Value) (h : mr_h) (Q : Option Value → mr_h → Prop), mr_wp 176 18 [v0, v1, v2, v3, v4] (.int y :: .int x :: st) h Q = if y ≤ x then mr_wp 176 69 [v0, v1, v2, v3, v4] st h Q else mr_wp 176 21 [v0, v1, v2, v3, v4] st h Q) ∧
    (∀ (v0 v1 v2 v4 : Value) (x : Int32) (st : List Value) (h : mr_h) (Q : Option Value → mr_h → Prop), mr_wp 176 21 [v0, v1, v2, .int x, v4] st h Q = mr_wp 176 22 [v0, v1, v2, .int x, v4] (.int x :: st) h Q) ∧
    (∀ (v0 v1 v2 v3 v4 : Value) (x : Int32) (st : List Value) (h : mr_h) (Q : Option Value → mr_h → Prop), mr_wp 176 22 [v0, v1, v2, v3, v4] (.int x :: st) h Q = if x = 0 then mr_wp 176 61 [v0, v1, v2, v3, v4] st h Q else mr_wp 176 25 [v0, v1, v2, v3, v4] st h Q) ∧
    (∀ (v1 v2 v3 v4 : Value) (x : Nat) (st : List Value) (h : mr_h) (Q : Option Value → mr_h → Prop), mr_wp 176 25 [.ref x, v1, v2, v3, v4] st h Q = mr_wp 176 26 [.ref x, v1, v2, v3, v4] (.ref x :: st) h Q) ∧
    (∀ (v0 v1 v2 v3 v4 : Value) (a : Nat) (st : List Value) (h : mr_h) (Q : Option Value → mr_h → Prop), mr_wp 176 26 [v0, v1, v2, v3, v4] (.ref a :: st) h Q = mr_gf (h.1 a) 11 23 (fun v => mr_wp 176 29 [v0, v1, v2, v3, v4] (v :: st) h Q)) ∧
    (∀ (v1 v2 v3 v4 : Value) (x : Nat) (st : List Value) (h : mr_h) (Q : Option Value → mr_h → Prop), mr_wp 176 29 [.ref x, v1, v2, v3, v4] st h Q = mr_wp 176 30 [.ref x, v1, v2, v3, v4] (.ref x :: st) h Q) ∧
    (∀ (v0 v1 v2 v3 v4 : Value) (a : Nat) (st : List Value) (h : mr_h) (Q : Option Value → mr_h → Prop), mr_wp 176 30 [v0, v1, v2, v3, v4] (.ref a :: st) h Q = mr_gf (h.1 a) 11 18 (fun v => mr_wp 176 33 [v0, v1, v2, v3, v4] (v :: st) h Q)) ∧
    (∀ (v0 v1 v2 v3 : Value) (x : Int32) (st : List Value) (h : mr_h) (Q : Option Value → mr_h → Prop), mr_wp 176 33 [v0, v1, v2, v3, .int x] st h Q = mr_wp 176 35 [v0, v1, v2, v3, .int x] (.int x :: st) h Q) ∧
    (∀ (v0 v1 v2 v3 v4 : Value) (a : Nat) (x : Int32) (st : List Value) (h : mr_h) (Q : Option Value → mr_h → Prop), mr_wp 176 35 [v0, v1, v2, v3, v4] (.int x :: .ref a :: st) h Q = mr_ai (h.1 a) x (fun v => mr_wp 176 36 [v0, v1, v2, v3, v4] (.int v :: st) h Q)) ∧
    (∀ (v0 v1 v2 v3 v4 : Value) (a : Nat) (x : Int32) (st : List Value) (h : mr_h) (Q : Option Value → mr_h → Prop), mr_wp 176 36 [v0, v1, v2, v3, v4] (.int x :: .ref a :: st) h Q = mr_ai (h.1 a) x (fun v => mr_wp 176 37 [v0, v1, v2, v3, v4] (.int v :: st) h Q)) ∧
    (∀ (v1 v2 v3 v4 : Value) (x : Nat) (st : List Value) (h : mr_h) (Q : Option Value → mr_h → Prop), mr_wp 176 37 [.ref x, v1, v2, v3, v4] st h Q = mr_wp 176 38 [.ref x, v1, v2, v3, v4] (.ref x :: st) h Q) ∧
    (∀ (v0 v1 v2 v3 v4 : Value) (a : Nat) (st : List Value) (h : mr_h) (Q : Option Value → mr_h → Prop), mr_wp 176 38 [v0, v1, v2, v3, v4] (.ref a :: st) h Q = mr_gf (h.1 a) 11 19 (fun v => mr_wp 176 41 [v0, v1, v2, v3, v4] (v :: st) h Q)) ∧
    (∀ (v0 v1 v2 v3 : Value) (x : Int32) (st : List Value) (h : mr_h) (Q : Option Value → mr_h → Prop), mr_wp 176 41 [v0, v1, v2, v3, .int x] st h Q = mr_wp 176 43 [v0, v1, v2, v3, .int x] (.int x :: st) h Q) ∧
    (∀ (v0 v1 v2 v3 v4 : Value) (a : Nat) (x : Int32) (st : List Value) (h : mr_h) (Q : Option Value → mr_h → Prop), mr_wp 176 43 [v0, v1, v2, v3, v4] (.int x :: .ref a :: st) h Q = mr_ai (h.1 a) x (fun v => mr_wp 176 44 [v0, v1, v2, v3, v4] (.int v :: st) h Q)) ∧
    (∀ (v0 v1 v2 v3 v4 : Value) (x : Int32) (y : Int32) (st : List Value) (h : mr_h) (Q : Option Value → mr_h → Prop), mr_wp 176 44 [v0, v1, v2, v3, v4] (.int y :: .int x :: st) h Q = mr_wp 176 45 [v0, v1, v2, v3, v4] (.int (x >>> (y &&& 31)) :: st) h Q) ∧
    (∀ (v0 v1 v2 v3 v4 : Value) (st : List Value) (h : mr_h) (Q : Option Value → mr_h → Prop), mr_wp 176 45 [v0, v1, v2, v3, v4] st h Q = mr_wp 176 46 [v0, v1, v2, v3, v4] (.int (1) :: st) h Q) ∧
    (∀ (v0 v1 v2 v3 v4 : Value) (x : Int32) (y : Int32) (st : List Value) (h : mr_h) (Q : Option Value → mr_h → Prop), mr_wp 176 46 [v0, v1, v2, v3, v4] (.int y :: .int x :: st) h Q = mr_wp 176 47 [v0, v1, v2, v3, v4] (.int (x &&& y) :: st) h Q) ∧
    (∀ (v1 v2 v3 v4 : Value) (x : Nat) (st : List Value) (h : mr_h) (Q : Option Value → mr_h → Prop), mr_wp 176 47 [.ref x, v1, v2, v3, v4] st h Q = mr_wp 176 48 [.ref x, v1, v2, v3, v4] (.ref x :: st) h Q) ∧
    (∀ (v0 v1 v2 v3 v4 : Value) (a : Nat) (st : List Value) (h : mr_h) (Q : Option Value → mr_h → Prop), mr_wp 176 48 [v0, v1, v2, v3, v4] (.ref a :: st) h Q = mr_gf (h.1 a) 11 20 (fun v => mr_wp 176 51 [v0, v1, v2, v3, v4] (v :: st) h Q)) ∧
    (∀ (v0 v1 v2 v3 : Value) (x : Int32) (st : List Value) (h : mr_h) (Q : Option Value → mr_h → Prop), mr_wp 176 51 [v0, v1, v2, v3, .int x] st h Q = mr_wp 176 53 [v0, v1, v2, v3, .int x] (.int x :: st) h Q) ∧
    (∀ (v0 v1 v2 v3 v4 : Value) (a : Nat) (x : Int32) (st : List Value) (h : mr_h) (Q : Option Value → mr_h → Prop), mr_wp 176 53 [v0, v1, v2, v3, v4] (.int x :: .ref a :: st) h Q = mr_ai (h.1 a) x (fun v => mr_wp 176 54 [v0, v1, v2, v3, v4] (.int v :: st) h Q)) ∧
    (∀ (v0 v1 v2 v3 v4 : Value) (x : Int32) (y : Int32) (st : List Value) (h : mr_h) (Q : Option Value → mr_h → Prop), mr_wp 176 54 [v0, v1, v2, v3, v4] (.int y :: .int x :: st) h Q = if ¬ x = y then mr_wp 176 61 [v0, v1, v2, v3, v4] st h Q else mr_wp 176 57 [v0, v1, v2, v3, v4] st h Q) ∧
    (∀ (v0 v1 v2 v3 v4 : Value) (st : List Value) (h : mr_h) (Q : Option Value → mr_h → Prop), mr_wp 176 57 [v0, v1, v2, v3, v4] st h Q = mr_wp 176 58 [v0, v1, v2, v3, v4] (.int (1) :: st) h Q) ∧
    (∀ (v0 v1 v2 v3 v4 : Value) (st : List Value) (h : mr_h) (Q : Option Value → mr_h → Prop), mr_wp 176 58 [v0, v1, v2, v3, v4] st h Q = mr_wp 176 62 [v0, v1, v2, v3, v4] st h Q) ∧
    (∀ (v0 v1 v2 v3 v4 : Value) (st : List Value) (h : mr_h) (Q : Option Value → mr_h → Prop), mr_wp 176 61 [v0, v1, v2, v3, v4] st h Q = mr_wp 176 62 [v0, v1, v2, v3, v4] (.int (0) :: st) h Q) ∧
    (∀ (v0 v1 v3 v4 : Value) (w2 : Int32) (x : Int32) (st : List Value) (h : mr_h) (Q : Option Value → mr_h → Prop), mr_wp 176 62 [v0, v1, .int w2, v3, v4] (.int x :: st) h Q = mr_wp 176 63 [v0, v1, .int w2, .int x, v4] st h Q) ∧
    (∀ (v0 v1 v2 : Value) (x : Int32) (w3 : Int32) (st : List Value) (h : mr_h) (Q : Option Value → mr_h → Prop), mr_wp 176 63 [v0, v1, v2, .int w3, .int x] st h Q = mr_wp 176 66 [v0, v1, v2, .int w3, .int (x + (1))] st h Q) ∧
    (∀ (v0 v1 v2 v3 v4 : Value) (st : List Value) (h : mr_h) (Q : Option Value → mr_h → Prop), mr_wp 176 66 [v0, v1, v2, v3, v4] st h Q = mr_wp 176 12 [v0, v1, v2, v3, v4] st h Q) ∧
    (∀ (v0 v1 v2 v4 : Value) (x : Int32) (st : List Value) (h : mr_h) (Q : Option Value → mr_h → Prop), mr_wp 176 69 [v0, v1, v2, .int x, v4] st h Q = mr_wp 176 70 [v0, v1, v2, .int x, v4] (.int x :: st) h Q) :=
  ⟨fun v1 v2 v3 v4 x st h Q => gx_one (i := .aload_n 0) (len := 1) (by decide +kernel) rfl,
   fun v0 v2 v3 v4 x st h Q => gx_one (i := .iload_n 1) (len := 1) (by decide +kernel) rfl,
   fun v0 v1 v3 v4 x st h Q => gx_one (i := .iload_n 2) (len := 1) (by decide +kernel) rfl,
   fun v0 v1 v2 v3 v4 a0 a1 o h Q => gx_virt (x := 186) (n := 2) (by decide +kernel) (by decide +kernel) rfl (Or.inl (Nat.le_of_ble_eq_true rfl)) (by show _ ≤ mr_mxl 152; rw [show mr_mxl 152 = 3 from by decide +kernel]; exact Nat.le_of_ble_eq_true rfl) (by decide +kernel),
   fun v0 v1 v2 v3 v4 x st h Q => gx_one (i := .pop) (len := 1) (by decide +kernel) rfl,
   fun v0 v1 v2 v3 v4 st h Q => gx_one (i := .iconst 1) (len := 1) (by decide +kernel) rfl,
   fun v0 v1 v3 v4 w2 x st h Q => gx_one (i := .istore_n 3) (len := 1) (by decide +kernel) rfl,
   fun v0 v1 v2 v3 v4 st h Q => gx_one (i := .iconst 0) (len := 1) (by decide +kernel) rfl,
   fun v0 v1 v2 v4 w3 x st h Q => gx_one (i := .istore 4) (len := 2) (by decide +kernel) rfl,
   fun v1 v2 v3 v4 x st h Q => gx_one (i := .aload_n 0) (len := 1) (by decide +kernel) rfl,
   fun v0 v1 v2 v3 v4 a st h Q => gx_get (x := 126) (by decide +kernel) (by decide +kernel),
   fun v0 v1 v2 v3 v4 x y st h Q => gx_br (i := .if_icmp .ge 51) (len := 3) (c := .ge) (by decide +kernel) rfl rfl,
   fun v0 v1 v2 v4 x st h Q => gx_one (i := .iload_n 3) (len := 1) (by decide +kernel) rfl,
   fun v0 v1 v2 v3 v4 x st h Q => gx_br (i := .ifCond .eq 39) (len := 3) (c := .eq) (by decide +kernel) rfl rfl,
   fun v1 v2 v3 v4 x st h Q => gx_one (i := .aload_n 0) (len := 1) (by decide +kernel) rfl,
   fun v0 v1 v2 v3 v4 a st h Q => gx_get (x := 44) (by decide +kernel) (by decide +kernel),
   fun v1 v2 v3 v4 x st h Q => gx_one (i := .aload_n 0) (len := 1) (by decide +kernel) rfl,
   fun v0 v1 v2 v3 v4 a st h Q => gx_get (x := 32) (by decide +kernel) (by decide +kernel),
   fun v0 v1 v2 v3 x st h Q => gx_one (i := .iload 4) (len := 2) (by decide +kernel) rfl,
   fun v0 v1 v2 v3 v4 a x st h Q => gx_iald (by decide +kernel),
   fun v0 v1 v2 v3 v4 a x st h Q => gx_iald (by decide +kernel),
   fun v1 v2 v3 v4 x st h Q => gx_one (i := .aload_n 0) (len := 1) (by decide +kernel) rfl,
   fun v0 v1 v2 v3 v4 a st h Q => gx_get (x := 35) (by decide +kernel) (by decide +kernel),
   fun v0 v1 v2 v3 x st h Q => gx_one (i := .iload 4) (len := 2) (by decide +kernel) rfl,
   fun v0 v1 v2 v3 v4 a x st h Q => gx_iald (by decide +kernel),
   fun v0 v1 v2 v3 v4 x y st h Q => gx_one (i := .ishr) (len := 1) (by decide +kernel) rfl,
   fun v0 v1 v2 v3 v4 st h Q => gx_one (i := .iconst 1) (len := 1) (by decide +kernel) rfl,
   fun v0 v1 v2 v3 v4 x y st h Q => gx_one (i := .iand) (len := 1) (by decide +kernel) rfl,
   fun v1 v2 v3 v4 x st h Q => gx_one (i := .aload_n 0) (len := 1) (by decide +kernel) rfl,
   fun v0 v1 v2 v3 v4 a st h Q => gx_get (x := 38) (by decide +kernel) (by decide +kernel),
   fun v0 v1 v2 v3 x st h Q => gx_one (i := .iload 4) (len := 2) (by decide +kernel) rfl,
   fun v0 v1 v2 v3 v4 a x st h Q => gx_iald (by decide +kernel),
   fun v0 v1 v2 v3 v4 x y st h Q => gx_br (i := .if_icmp .ne 7) (len := 3) (c := .ne) (by decide +kernel) rfl rfl,
   fun v0 v1 v2 v3 v4 st h Q => gx_one (i := .iconst 1) (len := 1) (by decide +kernel) rfl,
   fun v0 v1 v2 v3 v4 st h Q => gx_one (i := .goto 4) (len := 3) (by decide +kernel) rfl,
   fun v0 v1 v2 v3 v4 st h Q => gx_one (i := .iconst 0) (len := 1) (by decide +kernel) rfl,
   fun v0 v1 v3 v4 w2 x st h Q => gx_one (i := .istore_n 3) (len := 1) (by decide +kernel) rfl,
   fun v0 v1 v2 x w3 st h Q => gx_one (i := .iinc 4 1) (len := 3) (by decide +kernel) rfl,
   fun v0 v1 v2 v3 v4 st h Q => gx_one (i := .goto (-54)) (len := 3) (by decide +kernel) rfl,
   fun v0 v1 v2 v4 x st h Q => gx_one (i := .iload_n 3) (len := 1) (by decide +kernel) rfl⟩
theorem S_mo_canBe_1 : (∀ (v0 v1 v2 v3 v4 : Value) (x : Int32) (h : mr_h) (Q : Option Value → mr_h → Prop) (hv : x &&& 1 = x), mr_wp 176 70 [v0, v1, v2, v3, v4] [.int x] h Q = Q (some (.int x)) h) :=
  fun v0 v1 v2 v3 v4 x h Q hv => gx_ret (i := .ireturn) (len := 1) (by decide +kernel) rfl rfl (by simp only [mr_rt, if_pos]; rw [if_pos (Or.inr ⟨by decide +kernel, hv⟩)])

theorem s_mo_next_20 (v0 v1 v2 v3 v5 v6 v7 : Value) (x : Int32) (st : List Value) (h : mr_h) (Q : Option Value → mr_h → Prop) : mr_wp 177 20 [v0, v1, v2, v3, .int x, v5, v6, v7] st h Q = mr_wp 177 22 [v0, v1, v2, v3, .int x, v5, v6, v7] (.int x :: st) h Q := gx_one (i := .iload 4) (len := 2) (by decide +kernel) rfl
theorem s_mo_next_37 (v0 v1 v2 v3 v4 v6 v7 : Value) (x : Int32) (st : List Value) (h : mr_h) (Q : Option Value → mr_h → Prop) : mr_wp 177 37 [v0, v1, v2, v3, v4, .int x, v6, v7] st h Q = mr_wp 177 39 [v0, v1, v2, v3, v4, .int x, v6, v7] (.int x :: st) h Q := gx_one (i := .iload 5) (len := 2) (by decide +kernel) rfl
theorem S_mo_next_0 : (∀ (v1 v2 v3 v4 v5 v6 v7 : Value) (x : Nat) (st : List Value) (h : mr_h) (Q : Option Value → mr_h → Prop), mr_wp 177 0 [.ref x, v1, v2, v3, v4, v5, v6, v7] st h Q = mr_wp 177 1 [.ref x, v1, v2, v3, v4, v5, v6, v7] (.ref x :: st) h Q) ∧
    (∀ (v0 v1 v2 v3 v4 v5 v6 v7 : Value) (st : List Value) (h : mr_h) (Q : Option Value → mr_h → Prop), mr_wp 177 1 [v0, v1, v2, v3, v4, v5, v6, v7] st h Q = mr_wp 177 2 [v0, v1, v2, v3, v4, v5, v6, v7] (.int (0) :: st) h Q) ∧
    (∀ (v0 v1 v2 v3 v4 v5 v6 v7 : Value) (a : Nat) (x : Int32) (st : List Value) (h : mr_h) (Q : Option Value → mr_h → Prop), mr_wp 177 2 [v0, v1, v2, v3, v4, v5, v6, v7] (.int x :: .ref a :: st) h Q = mr_pf (h.1 a) 11 0 (.int x) (fun c => mr_wp 177 5 [v0, v1, v2, v3, v4, v5, v6, v7] st (mr_up h a c) Q)) ∧
    (∀ (v1 v2 v3 v4 v5 v6 v7 : Value) (x : Nat) (st : List Value) (h : mr_h) (Q : Option Value → mr_h → Prop), mr_wp 177 5 [.ref x, v1, v2, v3, v4, v5, v6, v7] st h Q = mr_wp 177 6 [.ref x, v1, v2, v3, v4, v5, v6, v7] (.ref x :: st) h Q) ∧
    (∀ (v0 v1 v2 v3 v4 v5 v6 v7 : Value) (o : Nat) (h : mr_h) (Q : Option Value → mr_h → Prop), mr_wp 177 6 [v0, v1, v2, v3, v4, v5, v6, v7] [.ref o] h Q = mr_rc (h.1 o) 11 (mr_run 175 [.ref o] h (fun v h' => mr_wp 177 9 [v0, v1, v2, v3, v4, v5, v6, v7] (v.toList ++ []) h' Q))) ∧
    (∀ (v1 v2 v3 v4 v5 v6 v7 : Value) (w0 : Nat) (x : Int32) (st : List Value) (h : mr_h) (Q : Option Value → mr_h → Prop), mr_wp 177 9 [.ref w0, v1, v2, v3, v4, v5, v6, v7] (.int x :: st) h Q = mr_wp 177 10 [.ref w0, .int x, v2, v3, v4, v5, v6, v7] st h Q) ∧
    (∀ (v0 v1 v2 v3 v4 v5 v6 v7 : Value) (st : List Value) (h : mr_h) (Q : Option Value → mr_h → Prop), mr_wp 177 10 [v0, v1, v2, v3, v4, v5, v6, v7] st h Q = mr_wp 177 12 [v0, v1, v2, v3, v4, v5, v6, v7] (.int (-9) :: st) h Q) ∧
    (∀ (v0 v2 v3 v4 v5 v6 v7 : Value) (w1 : Int32) (x : Int32) (st : List Value) (h : mr_h) (Q : Option Value → mr_h → Prop), mr_wp 177 12 [v0, .int w1, v2, v3, v4, v5, v6, v7] (.int x :: st) h Q = mr_wp 177 13 [v0, .int w1, .int x, v3, v4, v5, v6, v7] st h Q) ∧
    (∀ (v0 v1 v2 v3 v4 v5 v6 v7 : Value) (st : List Value) (h : mr_h) (Q : Option Value → mr_h → Prop), mr_wp 177 13 [v0, v1, v2, v3, v4, v5, v6, v7] st h Q = mr_wp 177 16 [v0, v1, v2, v3, v4, v5, v6, v7] (.int (999) :: st) h Q) ∧
    (∀ (v0 v1 v3 v4 v5 v6 v7 : Value) (w2 : Int32) (x : Int32) (st : List Value) (h : mr_h) (Q : Option Value → mr_h → Prop), mr_wp 177 16 [v0, v1, .int w2, v3, v4, v5, v6, v7] (.int x :: st) h Q = mr_wp 177 17 [v0, v1, .int w2, .int x, v4, v5, v6, v7] st h Q) ∧
    (∀ (v0 v1 v2 v3 v4 v5 v6 v7 : Value) (st : List Value) (h : mr_h) (Q : Option Value → mr_h → Prop), mr_wp 177 17 [v0, v1, v2, v3, v4, v5, v6, v7] st h Q = mr_wp 177 18 [v0, v1, v2, v3, v4, v5, v6, v7] (.int (0) :: st) h Q) ∧
    (∀ (v0 v1 v2 v4 v5 v6 v7 : Value) (w3 : Int32) (x : Int32) (st : List Value) (h : mr_h) (Q : Option Value → mr_h → Prop), mr_wp 177 18 [v0, v1, v2, .int w3, v4, v5, v6, v7] (.int x :: st) h Q = mr_wp 177 20 [v0, v1, v2, .int w3, .int x, v5, v6, v7] st h Q) ∧
    (∀ (v1 v2 v3 v4 v5 v6 v7 : Value) (x : Nat) (st : List Value) (h : mr_h) (Q : Option Value → mr_h → Prop), mr_wp 177 22 [.ref x, v1, v2, v3, v4, v5, v6, v7] st h Q = mr_wp 177 23 [.ref x, v1, v2, v3, v4, v5, v6, v7] (.ref x :: st) h Q) ∧
    (∀ (v0 v1 v2 v3 v4 v5 v6 v7 : Value) (a : Nat) (st : List Value) (h : mr_h) (Q : Option Value → mr_h → Prop), mr_wp 177 23 [v0, v1, v2, v3, v4, v5, v6, v7] (.ref a :: st) h Q = mr_gf (h.1 a) 11 8 (fun v => mr_wp 177 26 [v0, v1, v2, v3, v4, v5, v6, v7] (v :: st) h Q)) ∧
    (∀ (v0 v1 v2 v3 v4 v5 v6 v7 : Value) (x : Int32) (y : Int32) (st : List Value) (h : mr_h) (Q : Option Value → mr_h → Prop), mr_wp 177 26 [v0, v1, v2, v3, v4, v5, v6, v7] (.int y :: .int x :: st) h Q = if y ≤ x then mr_wp 177 118 [v0, v1, v2, v3, v4, v5, v6, v7] st h Q else mr_wp 177 29 [v0, v1, v2, v3, v4, v5, v6, v7] st h Q) ∧
    (∀ (v0 v2 v3 v4 v5 v6 v7 : Value) (x : Int32) (st : List Value) (h : mr_h) (Q : Option Value → mr_h → Prop), mr_wp 177 29 [v0, .int x, v2, v3, v4, v5, v6, v7] st h Q = mr_wp 177 30 [v0, .int x, v2, v3, v4, v5, v6, v7] (.int x :: st) h Q) ∧
    (∀ (v0 v1 v2 v3 v4 v5 v6 v7 : Value) (st : List Value) (h : mr_h) (Q : Option Value → mr_h → Prop), mr_wp 177 30 [v0, v1, v2, v3, v4, v5, v6, v7] st h Q = mr_wp 177 31 [v0, v1, v2, v3, v4, v5, v6, v7] (.int (1) :: st) h Q) ∧
    (∀ (v0 v1 v2 v3 v4 v5 v6 v7 : Value) (x : Int32) (y : Int32) (st : List Value) (h : mr_h) (Q : Option Value → mr_h → Prop), mr_wp 177 31 [v0, v1, v2, v3, v4, v5, v6, v7] (.int y :: .int x :: st) h Q = if x ≤ y then mr_wp 177 118 [v0, v1, v2, v3, v4, v5, v6, v7] st h Q else mr_wp 177 34 [v0, v1, v2, v3, v4, v5, v6, v7] st h Q) ∧
    (∀ (v0 v1 v2 v3 v4 v5 v6 v7 : Value) (st : List Value) (h : mr_h) (Q : Option Value → mr_h → Prop), mr_wp 177 34 [v0, v1, v2, v3, v4, v5, v6, v7] st h Q = mr_wp 177 35 [v0, v1, v2, v3, v4, v5, v6, v7] (.int (0) :: st) h Q) ∧
    (∀ (v0 v1 v2 v3 v5 v6 v7 : Value) (w4 : Int32) (x : Int32) (st : List Value) (h : mr_h) (Q : Option Value → mr_h → Prop), mr_wp 177 35 [v0, v1, v2, v3, .int w4, v5, v6, v7] (.int x :: st) h Q = mr_wp 177 37 [v0, v1, v2, v3, .int w4, .int x, v6, v7] st h Q) ∧
    (∀ (v1 v2 v3 v4 v5 v6 v7 : Value) (x : Nat) (st : List Value) (h : mr_h) (Q : Option Value → mr_h → Prop), mr_wp 177 39 [.ref x, v1, v2, v3, v4, v5, v6, v7] st h Q = mr_wp 177 40 [.ref x, v1, v2, v3, v4, v5, v6, v7] (.ref x :: st) h Q) ∧
    (∀ (v0 v1 v2 v3 v4 v5 v6 v7 : Value) (a : Nat) (st : List Value) (h : mr_h) (Q : Option Value → mr_h → Prop), mr_wp 177 40 [v0, v1, v2, v3, v4, v5, v6, v7] (.ref a :: st) h Q = mr_gf (h.1 a) 11 8 (fun v => mr_wp 177 43 [v0, v1, v2, v3, v4, v5, v6, v7] (v :: st) h Q)) ∧
    (∀ (v0 v1 v2 v3 v4 v5 v6 v7 : Value) (x : Int32) (y : Int32) (st : List Value) (h : mr_h) (Q : Option Value → mr_h → Prop), mr_wp 177 43 [v0, v1, v2, v3, v4, v5, v6, v7] (.int y :: .int x :: st) h Q = if y ≤ x then mr_wp 177 112 [v0, v1, v2, v3, v4, v5, v6, v7] st h Q else mr_wp 177 46 [v0, v1, v2, v3, v4, v5, v6, v7] st h Q) ∧
    (∀ (v1 v2 v3 v4 v5 v6 v7 : Value) (x : Nat) (st : List Value) (h : mr_h) (Q : Option Value → mr_h → Prop), mr_wp 177 46 [.ref x, v1, v2, v3, v4, v5, v6, v7] st h Q = mr_wp 177 47 [.ref x, v1, v2, v3, v4, v5, v6, v7] (.ref x :: st) h Q) ∧
    (∀ (v0 v1 v2 v3 v4 v5 v6 v7 : Value) (a : Nat) (st : List Value) (h : mr_h) (Q : Option Value → mr_h → Prop), mr_wp 177 47 [v0, v1, v2, v3, v4, v5, v6, v7] (.ref a :: st) h Q = mr_gf (h.1 a) 11 26 (fun v => mr_wp 177 50 [v0, v1, v2, v3, v4, v5, v6, v7] (v :: st) h Q)) ∧
    (∀ (v0 v1 v2 v3 v4 v5 v6 v7 : Value) (st : List Value) (h : mr_h) (Q : Option Value → mr_h → Prop), mr_wp 177 50 [v0, v1, v2, v3, v4, v5, v6, v7] st h Q = mr_wp 177 52 [v0, v1, v2, v3, v4, v5, v6, v7] (.int (12) :: st) h Q) ∧
    (∀ (v0 v1 v2 v3 v5 v6 v7 : Value) (x : Int32) (st : List Value) (h : mr_h) (Q : Option Value → mr_h → Prop), mr_wp 177 52 [v0, v1, v2, v3, .int x, v5, v6, v7] st h Q = mr_wp 177 54 [v0, v1, v2, v3, .int x, v5, v6, v7] (.int x :: st) h Q) ∧
    (∀ (v0 v1 v2 v3 v4 v5 v6 v7 : Value) (x : Int32) (y : Int32) (st : List Value) (h : mr_h) (Q : Option Value → mr_h → Prop), mr_wp 177 54 [v0, v1, v2, v3, v4, v5, v6, v7] (.int y :: .int x :: st) h Q = mr_wp 177 55 [v0, v1, v2, v3, v4, v5, v6, v7] (.int (x * y) :: st) h Q) ∧
    (∀ (v0 v1 v2 v3 v4 v6 v7 : Value) (x : Int32) (st : List Value) (h : mr_h) (Q : Option Value → mr_h → Prop), mr_wp 177 55 [v0, v1, v2, v3, v4, .int x, v6, v7] st h Q = mr_wp 177 57 [v0, v1, v2, v3, v4, .int x, v6, v7] (.int x :: st) h Q) ∧
    (∀ (v0 v1 v2 v3 v4 v5 v6 v7 : Value) (x : Int32) (y : Int32) (st : List Value) (h : mr_h) (Q : Option Value → mr_h → Prop), mr_wp 177 57 [v0, v1, v2, v3, v4, v5, v6, v7] (.int y :: .int x :: st) h Q = mr_wp 177 58 [v0, v1, v2, v3, v4, v5, v6, v7] (.int (x + y) :: st) h Q) ∧
    (∀ (v0 v1 v2 v3 v4 v5 v6 v7 : Value) (a : Nat) (x : Int32) (st : List Value) (h : mr_h) (Q : Option Value → mr_h → Prop), mr_wp 177 58 [v0, v1, v2, v3, v4, v5, v6, v7] (.int x :: .ref a :: st) h Q = mr_ai (h.1 a) x (fun v => mr_wp 177 59 [v0, v1, v2, v3, v4, v5, v6, v7] (.int v :: st) h Q)) ∧
    (∀ (v0 v1 v2 v3 v4 v6 v7 : Value) (w5 : Int32) (x : Int32) (st : List Value) (h : mr_h) (Q : Option Value → mr_h → Prop), mr_wp 177 59 [v0, v1, v2, v3, v4, .int w5, v6, v7] (.int x :: st) h Q = mr_wp 177 61 [v0, v1, v2, v3, v4, .int w5, .int x, v7] st h Q) ∧
    (∀ (v0 v1 v2 v3 v4 v5 v7 : Value) (x : Int32) (st : List Value) (h : mr_h) (Q : Option Value → mr_h → Prop), mr_wp 177 61 [v0, v1, v2, v3, v4, v5, .int x, v7] st h Q = mr_wp 177 63 [v0, v1, v2, v3, v4, v5, .int x, v7] (.int x :: st) h Q) ∧
    (∀ (v0 v2 v3 v4 v5 v6 v7 : Value) (x : Int32) (st : List Value) (h : mr_h) (Q : Option Value → mr_h → Prop), mr_wp 177 63 [v0, .int x, v2, v3, v4, v5, v6, v7] st h Q = mr_wp 177 64 [v0, .int x, v2, v3, v4, v5, v6, v7] (.int x :: st) h Q) ∧
    (∀ (v0 v1 v2 v3 v4 v5 v7 : Value) (x : Int32) (st : List Value) (h : mr_h) (Q : Option Value → mr_h → Prop), mr_wp 177 64 [v0, v1, v2, v3, v4, v5, .int x, v7] st h Q = mr_wp 177 66 [v0, v1, v2, v3, v4, v5, .int x, v7] (.int x :: st) h Q) ∧
    (∀ (v0 v1 v2 v3 v4 v5 v6 v7 : Value) (x : Int32) (y : Int32) (st : List Value) (h : mr_h) (Q : Option Value → mr_h → Prop), mr_wp 177 66 [v0, v1, v2, v3, v4, v5, v6, v7] (.int y :: .int x :: st) h Q = mr_wp 177 67 [v0, v1, v2, v3, v4, v5, v6, v7] (.int (x - y) :: st) h Q) ∧
    (∀ (v0 v1 v2 v3 v4 v5 v6 v7 : Value) (x : Int32) (y : Int32) (st : List Value) (h : mr_h) (Q : Option Value → mr_h → Prop), mr_wp 177 67 [v0, v1, v2, v3, v4, v5, v6, v7] (.int y :: .int x :: st) h Q = if x ≤ y then mr_wp 177 75 [v0, v1, v2, v3, v4, v5, v6, v7] st h Q else mr_wp 177 70 [v0, v1, v2, v3, v4, v5, v6, v7] st h Q) ∧
    (∀ (v0 v1 v2 v3 v4 v5 v7 : Value) (x : Int32) (st : List Value) (h : mr_h) (Q : Option Value → mr_h → Prop), mr_wp 177 70 [v0, v1, v2, v3, v4, v5, .int x, v7] st h Q = mr_wp 177 72 [v0, v1, v2, v3, v4, v5, .int x, v7] (.int x :: st) h Q) ∧
    (∀ (v0 v1 v2 v3 v4 v5 v6 v7 : Value) (st : List Value) (h : mr_h) (Q : Option Value → mr_h → Prop), mr_wp 177 72 [v0, v1, v2, v3, v4, v5, v6, v7] st h Q = mr_wp 177 79 [v0, v1, v2, v3, v4, v5, v6, v7] st h Q) ∧
    (∀ (v0 v2 v3 v4 v5 v6 v7 : Value) (x : Int32) (st : List Value) (h : mr_h) (Q : Option Value → mr_h → Prop), mr_wp 177 75 [v0, .int x, v2, v3, v4, v5, v6, v7] st h Q = mr_wp 177 76 [v0, .int x, v2, v3, v4, v5, v6, v7] (.int x :: st) h Q) :=
  ⟨fun v1 v2 v3 v4 v5 v6 v7 x st h Q => gx_one (i := .aload_n 0) (len := 1) (by decide +kernel) rfl,
   fun v0 v1 v2 v3 v4 v5 v6 v7 st h Q => gx_one (i := .iconst 0) (len := 1) (by decide +kernel) rfl,
   fun v0 v1 v2 v3 v4 v5 v6 v7 a x st h Q => gx_put (x := 65) (by decide +kernel) (by decide +kernel) ⟨rfl, Or.inl rfl⟩,
   fun v1 v2 v3 v4 v5 v6 v7 x st h Q => gx_one (i := .aload_n 0) (len := 1) (by decide +kernel) rfl,
   fun v0 v1 v2 v3 v4 v5 v6 v7 o h Q => gx_virt (x := 225) (n := 0) (by decide +kernel) (by decide +kernel) rfl (Or.inl (Nat.le_of_ble_eq_true rfl)) (by show _ ≤ mr_mxl 175; rw [show mr_mxl 175 = 5 from by decide +kernel]; exact Nat.le_of_ble_eq_true rfl) (by decide +kernel),
   fun v1 v2 v3 v4 v5 v6 v7 w0 x st h Q => gx_one (i := .istore_n 1) (len := 1) (by decide +kernel) rfl,
   fun v0 v1 v2 v3 v4 v5 v6 v7 st h Q => gx_one (i := .bipush (-9)) (len := 2) (by decide +kernel) rfl,
   fun v0 v2 v3 v4 v5 v6 v7 w1 x st h Q => gx_one (i := .istore_n 2) (len := 1) (by decide +kernel) rfl,
   fun v0 v1 v2 v3 v4 v5 v6 v7 st h Q => gx_one (i := .sipush 999) (len := 3) (by decide +kernel) rfl,
   fun v0 v1 v3 v4 v5 v6 v7 w2 x st h Q => gx_one (i := .istore_n 3) (len := 1) (by decide +kernel) rfl,
   fun v0 v1 v2 v3 v4 v5 v6 v7 st h Q => gx_one (i := .iconst 0) (len := 1) (by decide +kernel) rfl,
   fun v0 v1 v2 v4 v5 v6 v7 w3 x st h Q => gx_one (i := .istore 4) (len := 2) (by decide +kernel) rfl,
   fun v1 v2 v3 v4 v5 v6 v7 x st h Q => gx_one (i := .aload_n 0) (len := 1) (by decide +kernel) rfl,
   fun v0 v1 v2 v3 v4 v5 v6 v7 a st h Q => gx_get (x := 123) (by decide +kernel) (by decide +kernel),
   fun v0 v1 v2 v3 v4 v5 v6 v7 x y st h Q => gx_br (i := .if_icmp .ge 92) (len := 3) (c := .ge) (by decide +kernel) rfl rfl,
   fun v0 v2 v3 v4 v5 v6 v7 x st h Q => gx_one (i := .iload_n 1) (len := 1) (by decide +kernel) rfl,
   fun v0 v1 v2 v3 v4 v5 v6 v7 st h Q => gx_one (i := .iconst 1) (len := 1) (by decide +kernel) rfl,
   fun v0 v1 v2 v3 v4 v5 v6 v7 x y st h Q => gx_br (i := .if_icmp .le 87) (len := 3) (c := .le) (by decide +kernel) rfl rfl,
   fun v0 v1 v2 v3 v4 v5 v6 v7 st h Q => gx_one (i := .iconst 0) (len := 1) (by decide +kernel) rfl,
   fun v0 v1 v2 v3 v5 v6 v7 w4 x st h Q => gx_one (i := .istore 5) (len := 2) (by decide +kernel) rfl,
   fun v1 v2 v3 v4 v5 v6 v7 x st h Q => gx_one (i := .aload_n 0) (len := 1) (by decide +kernel) rfl,
   fun v0 v1 v2 v3 v4 v5 v6 v7 a st h Q => gx_get (x := 123) (by decide +kernel) (by decide +kernel),
   fun v0 v1 v2 v3 v4 v5 v6 v7 x y st h Q => gx_br (i := .if_icmp .ge 69) (len := 3) (c := .ge) (by decide +kernel) rfl rfl,
   fun v1 v2 v3 v4 v5 v6 v7 x st h Q => gx_one (i := .aload_n 0) (len := 1) (by decide +kernel) rfl,
   fun v0 v1 v2 v3 v4 v5 v6 v7 a st h Q => gx_get (x := 53) (by decide +kernel) (by decide +kernel),
   fun v0 v1 v2 v3 v4 v5 v6 v7 st h Q => gx_one (i := .bipush 12) (len := 2) (by decide +kernel) rfl,
   fun v0 v1 v2 v3 v5 v6 v7 x st h Q => gx_one (i := .iload 4) (len := 2) (by decide +kernel) rfl,
   fun v0 v1 v2 v3 v4 v5 v6 v7 x y st h Q => gx_one (i := .imul) (len := 1) (by decide +kernel) rfl,
   fun v0 v1 v2 v3 v4 v6 v7 x st h Q => gx_one (i := .iload 5) (len := 2) (by decide +kernel) rfl,
   fun v0 v1 v2 v3 v4 v5 v6 v7 x y st h Q => gx_one (i := .iadd) (len := 1) (by decide +kernel) rfl,
   fun v0 v1 v2 v3 v4 v5 v6 v7 a x st h Q => gx_iald (by decide +kernel),
   fun v0 v1 v2 v3 v4 v6 v7 w5 x st h Q => gx_one (i := .istore 6) (len := 2) (by decide +kernel) rfl,
   fun v0 v1 v2 v3 v4 v5 v7 x st h Q => gx_one (i := .iload 6) (len := 2) (by decide +kernel) rfl,
   fun v0 v2 v3 v4 v5 v6 v7 x st h Q => gx_one (i := .iload_n 1) (len := 1) (by decide +kernel) rfl,
   fun v0 v1 v2 v3 v4 v5 v7 x st h Q => gx_one (i := .iload 6) (len := 2) (by decide +kernel) rfl,
   fun v0 v1 v2 v3 v4 v5 v6 v7 x y st h Q => gx_one (i := .isub) (len := 1) (by decide +kernel) rfl,
   fun v0 v1 v2 v3 v4 v5 v6 v7 x y st h Q => gx_br (i := .if_icmp .le 8) (len := 3) (c := .le) (by decide +kernel) rfl rfl,
   fun v0 v1 v2 v3 v4 v5 v7 x st h Q => gx_one (i := .iload 6) (len := 2) (by decide +kernel) rfl,
   fun v0 v1 v2 v3 v4 v5 v6 v7 st h Q => gx_one (i := .goto 7) (len := 3) (by decide +kernel) rfl,
   fun v0 v2 v3 v4 v5 v6 v7 x st h Q => gx_one (i := .iload_n 1) (len := 1) (by decide +kernel) rfl⟩
theorem S_mo_next_1 : (∀ (v0 v1 v2 v3 v4 v5 v7 : Value) (x : Int32) (st : List Value) (h : mr_h) (Q : Option Value → mr_h → Prop), mr_wp 177 76 [v0, v1, v2, v3, v4, v5, .int x, v7] st h Q = mr_wp 177 78 [v0, v1, v2, v3, v4, v5, .int x, v7] (.int x :: st) h Q) ∧
    (∀ (v0 v1 v2 v3 v4 v5 v6 v7 : Value) (x : Int32) (y : Int32) (st : List Value) (h : mr_h) (Q : Option Value → mr_h → Prop), mr_wp 177 78 [v0, v1, v2, v3, v4, v5, v6, v7] (.int y :: .int x :: st) h Q = mr_wp 177 79 [v0, v1, v2, v3, v4, v5, v6, v7] (.int (x - y) :: st) h Q) ∧
    (∀ (v0 v1 v2 v3 v4 v5 v7 : Value) (w6 : Int32) (x : Int32) (st : List Value) (h : mr_h) (Q : Option Value → mr_h → Prop), mr_wp 177 79 [v0, v1, v2, v3, v4, v5, .int w6, v7] (.int x :: st) h Q = mr_wp 177 81 [v0, v1, v2, v3, v4, v5, .int w6, .int x] st h Q) ∧
    (∀ (v0 v1 v2 v3 v5 v6 v7 : Value) (x : Int32) (st : List Value) (h : mr_h) (Q : Option Value → mr_h → Prop), mr_wp 177 81 [v0, v1, v2, v3, .int x, v5, v6, v7] st h Q = mr_wp 177 83 [v0, v1, v2, v3, .int x, v5, v6, v7] (.int x :: st) h Q) ∧
    (∀ (v0 v1 v2 v3 v4 v6 v7 : Value) (x : Int32) (st : List Value) (h : mr_h) (Q : Option Value → mr_h → Prop), mr_wp 177 83 [v0, v1, v2, v3, v4, .int x, v6, v7] st h Q = mr_wp 177 85 [v0, v1, v2, v3, v4, .int x, v6, v7] (.int x :: st) h Q) ∧
    (∀ (v0 v1 v2 v3 v4 v5 v6 v7 : Value) (x : Int32) (y : Int32) (st : List Value) (h : mr_h) (Q : Option Value → mr_h → Prop), mr_wp 177 85 [v0, v1, v2, v3, v4, v5, v6, v7] (.int y :: .int x :: st) h Q = if x = y then mr_wp 177 106 [v0, v1, v2, v3, v4, v5, v6, v7] st h Q else mr_wp 177 88 [v0, v1, v2, v3, v4, v5, v6, v7] st h Q) ∧
    (∀ (v0 v1 v2 v3 v4 v5 v6 : Value) (x : Int32) (st : List Value) (h : mr_h) (Q : Option Value → mr_h → Prop), mr_wp 177 88 [v0, v1, v2, v3, v4, v5, v6, .int x] st h Q = mr_wp 177 90 [v0, v1, v2, v3, v4, v5, v6, .int x] (.int x :: st) h Q) ∧
    (∀ (v0 v1 v2 v4 v5 v6 v7 : Value) (x : Int32) (st : List Value) (h : mr_h) (Q : Option Value → mr_h → Prop), mr_wp 177 90 [v0, v1, v2, .int x, v4, v5, v6, v7] st h Q = mr_wp 177 91 [v0, v1, v2, .int x, v4, v5, v6, v7] (.int x :: st) h Q) ∧
    (∀ (v0 v1 v2 v3 v4 v5 v6 v7 : Value) (x : Int32) (y : Int32) (st : List Value) (h : mr_h) (Q : Option Value → mr_h → Prop), mr_wp 177 91 [v0, v1, v2, v3, v4, v5, v6, v7] (.int y :: .int x :: st) h Q = if y ≤ x then mr_wp 177 106 [v0, v1, v2, v3, v4, v5, v6, v7] st h Q else mr_wp 177 94 [v0, v1, v2, v3, v4, v5, v6, v7] st h Q) ∧
    (∀ (v0 v1 v2 v3 v4 v5 v6 v7 : Value) (st : List Value) (h : mr_h) (Q : Option Value → mr_h → Prop), mr_wp 177 94 [v0, v1, v2, v3, v4, v5, v6, v7] st h Q = mr_wp 177 96 [v0, v1, v2, v3, v4, v5, v6, v7] (.int (16) :: st) h Q) ∧
    (∀ (v0 v1 v2 v3 v5 v6 v7 : Value) (x : Int32) (st : List Value) (h : mr_h) (Q : Option Value → mr_h → Prop), mr_wp 177 96 [v0, v1, v2, v3, .int x, v5, v6, v7] st h Q = mr_wp 177 98 [v0, v1, v2, v3, .int x, v5, v6, v7] (.int x :: st) h Q) ∧
    (∀ (v0 v1 v2 v3 v4 v5 v6 v7 : Value) (x : Int32) (y : Int32) (st : List Value) (h : mr_h) (Q : Option Value → mr_h → Prop), mr_wp 177 98 [v0, v1, v2, v3, v4, v5, v6, v7] (.int y :: .int x :: st) h Q = mr_wp 177 99 [v0, v1, v2, v3, v4, v5, v6, v7] (.int (x * y) :: st) h Q) ∧
    (∀ (v0 v1 v2 v3 v4 v6 v7 : Value) (x : Int32) (st : List Value) (h : mr_h) (Q : Option Value → mr_h → Prop), mr_wp 177 99 [v0, v1, v2, v3, v4, .int x, v6, v7] st h Q = mr_wp 177 101 [v0, v1, v2, v3, v4, .int x, v6, v7] (.int x :: st) h Q) ∧
    (∀ (v0 v1 v2 v3 v4 v5 v6 v7 : Value) (x : Int32) (y : Int32) (st : List Value) (h : mr_h) (Q : Option Value → mr_h → Prop), mr_wp 177 101 [v0, v1, v2, v3, v4, v5, v6, v7] (.int y :: .int x :: st) h Q = mr_wp 177 102 [v0, v1, v2, v3, v4, v5, v6, v7] (.int (x + y) :: st) h Q) ∧
    (∀ (v0 v2 v3 v4 v5 v6 v7 : Value) (w1 : Int32) (x : Int32) (st : List Value) (h : mr_h) (Q : Option Value → mr_h → Prop), mr_wp 177 102 [v0, .int w1, v2, v3, v4, v5, v6, v7] (.int x :: st) h Q = mr_wp 177 103 [v0, .int w1, .int x, v3, v4, v5, v6, v7] st h Q) ∧
    (∀ (v0 v1 v2 v3 v4 v5 v6 : Value) (x : Int32) (st : List Value) (h : mr_h) (Q : Option Value → mr_h → Prop), mr_wp 177 103 [v0, v1, v2, v3, v4, v5, v6, .int x] st h Q = mr_wp 177 105 [v0, v1, v2, v3, v4, v5, v6, .int x] (.int x :: st) h Q) ∧
    (∀ (v0 v1 v3 v4 v5 v6 v7 : Value) (w2 : Int32) (x : Int32) (st : List Value) (h : mr_h) (Q : Option Value → mr_h → Prop), mr_wp 177 105 [v0, v1, .int w2, v3, v4, v5, v6, v7] (.int x :: st) h Q = mr_wp 177 106 [v0, v1, .int w2, .int x, v4, v5, v6, v7] st h Q) ∧
    (∀ (v0 v1 v2 v3 v6 v7 : Value) (x : Int32) (w4 : Int32) (st : List Value) (h : mr_h) (Q : Option Value → mr_h → Prop), mr_wp 177 106 [v0, v1, v2, v3, .int w4, .int x, v6, v7] st h Q = mr_wp 177 109 [v0, v1, v2, v3, .int w4, .int (x + (1)), v6, v7] st h Q) ∧
    (∀ (v0 v1 v2 v3 v4 v5 v6 v7 : Value) (st : List Value) (h : mr_h) (Q : Option Value → mr_h → Prop), mr_wp 177 109 [v0, v1, v2, v3, v4, v5, v6, v7] st h Q = mr_wp 177 37 [v0, v1, v2, v3, v4, v5, v6, v7] st h Q) ∧
    (∀ (v0 v1 v2 v5 v6 v7 : Value) (x : Int32) (w3 : Int32) (st : List Value) (h : mr_h) (Q : Option Value → mr_h → Prop), mr_wp 177 112 [v0, v1, v2, .int w3, .int x, v5, v6, v7] st h Q = mr_wp 177 115 [v0, v1, v2, .int w3, .int (x + (1)), v5, v6, v7] st h Q) ∧
    (∀ (v0 v1 v2 v3 v4 v5 v6 v7 : Value) (st : List Value) (h : mr_h) (Q : Option Value → mr_h → Prop), mr_wp 177 115 [v0, v1, v2, v3, v4, v5, v6, v7] st h Q = mr_wp 177 20 [v0, v1, v2, v3, v4, v5, v6, v7] st h Q) ∧
    (∀ (v0 v1 v3 v4 v5 v6 v7 : Value) (x : Int32) (st : List Value) (h : mr_h) (Q : Option Value → mr_h → Prop), mr_wp 177 118 [v0, v1, .int x, v3, v4, v5, v6, v7] st h Q = mr_wp 177 119 [v0, v1, .int x, v3, v4, v5, v6, v7] (.int x :: st) h Q) ∧
    (∀ (v0 v1 v2 v3 v4 v5 v6 v7 : Value) (x : Int32) (h : mr_h) (Q : Option Value → mr_h → Prop), mr_wp 177 119 [v0, v1, v2, v3, v4, v5, v6, v7] [.int x] h Q = Q (some (.int x)) h) :=
  ⟨fun v0 v1 v2 v3 v4 v5 v7 x st h Q => gx_one (i := .iload 6) (len := 2) (by decide +kernel) rfl,
   fun v0 v1 v2 v3 v4 v5 v6 v7 x y st h Q => gx_one (i := .isub) (len := 1) (by decide +kernel) rfl,
   fun v0 v1 v2 v3 v4 v5 v7 w6 x st h Q => gx_one (i := .istore 7) (len := 2) (by decide +kernel) rfl,
   fun v0 v1 v2 v3 v5 v6 v7 x st h Q => gx_one (i := .iload 4) (len := 2) (by decide +kernel) rfl,
   fun v0 v1 v2 v3 v4 v6 v7 x st h Q => gx_one (i := .iload 5) (len := 2) (by decide +kernel) rfl,
   fun v0 v1 v2 v3 v4 v5 v6 v7 x y st h Q => gx_br (i := .if_icmp .eq 21) (len := 3) (c := .eq) (by decide +kernel) rfl rfl,
   fun v0 v1 v2 v3 v4 v5 v6 x st h Q => gx_one (i := .iload 7) (len := 2) (by decide +kernel) rfl,
   fun v0 v1 v2 v4 v5 v6 v7 x st h Q => gx_one (i := .iload_n 3) (len := 1) (by decide +kernel) rfl,
   fun v0 v1 v2 v3 v4 v5 v6 v7 x y st h Q => gx_br (i := .if_icmp .ge 15) (len := 3) (c := .ge) (by decide +kernel) rfl rfl,
   fun v0 v1 v2 v3 v4 v5 v6 v7 st h Q => gx_one (i := .bipush 16) (len := 2) (by decide +kernel) rfl,
   fun v0 v1 v2 v3 v5 v6 v7 x st h Q => gx_one (i := .iload 4) (len := 2) (by decide +kernel) rfl,
   fun v0 v1 v2 v3 v4 v5 v6 v7 x y st h Q => gx_one (i := .imul) (len := 1) (by decide +kernel) rfl,
   fun v0 v1 v2 v3 v4 v6 v7 x st h Q => gx_one (i := .iload 5) (len := 2) (by decide +kernel) rfl,
   fun v0 v1 v2 v3 v4 v5 v6 v7 x y st h Q => gx_one (i := .iadd) (len := 1) (by decide +kernel) rfl,
   fun v0 v2 v3 v4 v5 v6 v7 w1 x st h Q => gx_one (i := .istore_n 2) (len := 1) (by decide +kernel) rfl,
   fun v0 v1 v2 v3 v4 v5 v6 x st h Q => gx_one (i := .iload 7) (len := 2) (by decide +kernel) rfl,
   fun v0 v1 v3 v4 v5 v6 v7 w2 x st h Q => gx_one (i := .istore_n 3) (len := 1) (by decide +kernel) rfl,
   fun v0 v1 v2 v3 v6 v7 x w4 st h Q => gx_one (i := .iinc 5 1) (len := 3) (by decide +kernel) rfl,
   fun v0 v1 v2 v3 v4 v5 v6 v7 st h Q => gx_one (i := .goto (-72)) (len := 3) (by decide +kernel) rfl,
   fun v0 v1 v2 v5 v6 v7 x w3 st h Q => gx_one (i := .iinc 4 1) (len := 3) (by decide +kernel) rfl,
   fun v0 v1 v2 v3 v4 v5 v6 v7 st h Q => gx_one (i := .goto (-95)) (len := 3) (by decide +kernel) rfl,
   fun v0 v1 v3 v4 v5 v6 v7 x st h Q => gx_one (i := .iload_n 2) (len := 1) (by decide +kernel) rfl,
   fun v0 v1 v2 v3 v4 v5 v6 v7 x h Q => gx_ret (i := .ireturn) (len := 1) (by decide +kernel) rfl rfl (by simp only [mr_rt, if_pos]; rw [if_pos (Or.inl (by decide +kernel))])⟩

theorem s_mo_keep_18 (v0 v1 : Value) (x : Int32) (st : List Value) (h : mr_h) (Q : Option Value → mr_h → Prop) : mr_wp 178 18 [v0, v1, .int x] st h Q = mr_wp 178 19 [v0, v1, .int x] (.int x :: st) h Q := gx_one (i := .iload_n 2) (len := 1) (by decide +kernel) rfl
theorem S_mo_keep : (∀ (v1 v2 : Value) (x : Nat) (st : List Value) (h : mr_h) (Q : Option Value → mr_h → Prop), mr_wp 178 0 [.ref x, v1, v2] st h Q = mr_wp 178 1 [.ref x, v1, v2] (.ref x :: st) h Q) ∧
    (∀ (v0 v1 v2 : Value) (st : List Value) (h : mr_h) (Q : Option Value → mr_h → Prop), mr_wp 178 1 [v0, v1, v2] st h Q = mr_wp 178 2 [v0, v1, v2] (.int (0) :: st) h Q) ∧
    (∀ (v0 v1 v2 : Value) (a : Nat) (x : Int32) (st : List Value) (h : mr_h) (Q : Option Value → mr_h → Prop), mr_wp 178 2 [v0, v1, v2] (.int x :: .ref a :: st) h Q = mr_pf (h.1 a) 11 0 (.int x) (fun c => mr_wp 178 5 [v0, v1, v2] st (mr_up h a c) Q)) ∧
    (∀ (v0 v2 : Value) (x : Int32) (st : List Value) (h : mr_h) (Q : Option Value → mr_h → Prop), mr_wp 178 5 [v0, .int x, v2] st h Q = mr_wp 178 6 [v0, .int x, v2] (.int x :: st) h Q) ∧
    (∀ (v0 v1 v2 : Value) (st : List Value) (h : mr_h) (Q : Option Value → mr_h → Prop), mr_wp 178 6 [v0, v1, v2] st h Q = mr_wp 178 7 [v0, v1, v2] (.int (0) :: st) h Q) ∧
    (∀ (v0 v1 v2 : Value) (st : List Value) (h : mr_h) (Q : Option Value → mr_h → Prop), mr_wp 178 7 [v0, v1, v2] st h Q = mr_wp 178 8 [v0, v1, v2] (.int (1) :: st) h Q) ∧
    (∀ (v0 v1 v2 : Value) (a0 : Int32) (a1 : Int32) (a2 : Int32) (h : mr_h) (Q : Option Value → mr_h → Prop), mr_wp 178 8 [v0, v1, v2] [.int a2, .int a1, .int a0] h Q = mr_run 121 [.int a0, .int a1, .int a2] h (fun v h' => mr_wp 178 11 [v0, v1, v2] (v.toList ++ []) h' Q)) ∧
    (∀ (v0 v1 v2 : Value) (x : Int32) (st : List Value) (h : mr_h) (Q : Option Value → mr_h → Prop), mr_wp 178 11 [v0, v1, v2] (.int x :: st) h Q = if ¬ x = 0 then mr_wp 178 16 [v0, v1, v2] st h Q else mr_wp 178 14 [v0, v1, v2] st h Q) ∧
    (∀ (v0 v1 v2 : Value) (st : List Value) (h : mr_h) (Q : Option Value → mr_h → Prop), mr_wp 178 14 [v0, v1, v2] st h Q = mr_wp 178 15 [v0, v1, v2] (.int (-1) :: st) h Q) ∧
    (∀ (v0 v1 v2 : Value) (x : Int32) (h : mr_h) (Q : Option Value → mr_h → Prop), mr_wp 178 15 [v0, v1, v2] [.int x] h Q = Q (some (.int x)) h) ∧
    (∀ (v0 v1 v2 : Value) (st : List Value) (h : mr_h) (Q : Option Value → mr_h → Prop), mr_wp 178 16 [v0, v1, v2] st h Q = mr_wp 178 17 [v0, v1, v2] (.int (0) :: st) h Q) ∧
    (∀ (v0 v2 : Value) (w1 : Int32) (x : Int32) (st : List Value) (h : mr_h) (Q : Option Value → mr_h → Prop), mr_wp 178 17 [v0, .int w1, v2] (.int x :: st) h Q = mr_wp 178 18 [v0, .int w1, .int x] st h Q) ∧
    (∀ (v0 v1 v2 : Value) (st : List Value) (h : mr_h) (Q : Option Value → mr_h → Prop), mr_wp 178 19 [v0, v1, v2] st h Q = mr_wp 178 21 [v0, v1, v2] (.int (24) :: st) h Q) ∧
    (∀ (v0 v1 v2 : Value) (x : Int32) (y : Int32) (st : List Value) (h : mr_h) (Q : Option Value → mr_h → Prop), mr_wp 178 21 [v0, v1, v2] (.int y :: .int x :: st) h Q = if y ≤ x then mr_wp 178 47 [v0, v1, v2] st h Q else mr_wp 178 24 [v0, v1, v2] st h Q) ∧
    (∀ (v1 v2 : Value) (x : Nat) (st : List Value) (h : mr_h) (Q : Option Value → mr_h → Prop), mr_wp 178 24 [.ref x, v1, v2] st h Q = mr_wp 178 25 [.ref x, v1, v2] (.ref x :: st) h Q) ∧
    (∀ (v0 v1 v2 : Value) (a : Nat) (st : List Value) (h : mr_h) (Q : Option Value → mr_h → Prop), mr_wp 178 25 [v0, v1, v2] (.ref a :: st) h Q = mr_gf (h.1 a) 11 14 (fun v => mr_wp 178 28 [v0, v1, v2] (v :: st) h Q)) ∧
    (∀ (v0 v1 v2 : Value) (st : List Value) (h : mr_h) (Q : Option Value → mr_h → Prop), mr_wp 178 28 [v0, v1, v2] st h Q = mr_wp 178 30 [v0, v1, v2] (.int (24) :: st) h Q) ∧
    (∀ (v0 v2 : Value) (x : Int32) (st : List Value) (h : mr_h) (Q : Option Value → mr_h → Prop), mr_wp 178 30 [v0, .int x, v2] st h Q = mr_wp 178 31 [v0, .int x, v2] (.int x :: st) h Q) ∧
    (∀ (v0 v1 v2 : Value) (x : Int32) (y : Int32) (st : List Value) (h : mr_h) (Q : Option Value → mr_h → Prop), mr_wp 178 31 [v0, v1, v2] (.int y :: .int x :: st) h Q = mr_wp 178 32 [v0, v1, v2] (.int (x * y) :: st) h Q) ∧
    (∀ (v0 v1 : Value) (x : Int32) (st : List Value) (h : mr_h) (Q : Option Value → mr_h → Prop), mr_wp 178 32 [v0, v1, .int x] st h Q = mr_wp 178 33 [v0, v1, .int x] (.int x :: st) h Q) ∧
    (∀ (v0 v1 v2 : Value) (x : Int32) (y : Int32) (st : List Value) (h : mr_h) (Q : Option Value → mr_h → Prop), mr_wp 178 33 [v0, v1, v2] (.int y :: .int x :: st) h Q = mr_wp 178 34 [v0, v1, v2] (.int (x + y) :: st) h Q) ∧
    (∀ (v1 v2 : Value) (x : Nat) (st : List Value) (h : mr_h) (Q : Option Value → mr_h → Prop), mr_wp 178 34 [.ref x, v1, v2] st h Q = mr_wp 178 35 [.ref x, v1, v2] (.ref x :: st) h Q) ∧
    (∀ (v0 v1 v2 : Value) (a : Nat) (st : List Value) (h : mr_h) (Q : Option Value → mr_h → Prop), mr_wp 178 35 [v0, v1, v2] (.ref a :: st) h Q = mr_gf (h.1 a) 11 12 (fun v => mr_wp 178 38 [v0, v1, v2] (v :: st) h Q)) ∧
    (∀ (v0 v1 : Value) (x : Int32) (st : List Value) (h : mr_h) (Q : Option Value → mr_h → Prop), mr_wp 178 38 [v0, v1, .int x] st h Q = mr_wp 178 39 [v0, v1, .int x] (.int x :: st) h Q) ∧
    (∀ (v0 v1 v2 : Value) (a : Nat) (x : Int32) (st : List Value) (h : mr_h) (Q : Option Value → mr_h → Prop), mr_wp 178 39 [v0, v1, v2] (.int x :: .ref a :: st) h Q = mr_ai (h.1 a) x (fun v => mr_wp 178 40 [v0, v1, v2] (.int v :: st) h Q)) ∧
    (∀ (v0 v1 v2 : Value) (a : Nat) (x : Int32) (y : Int32) (st : List Value) (h : mr_h) (Q : Option Value → mr_h → Prop), mr_wp 178 40 [v0, v1, v2] (.int y :: .int x :: .ref a :: st) h Q = mr_si (h.1 a) x y (fun c => mr_wp 178 41 [v0, v1, v2] st (mr_up h a c) Q)) ∧
    (∀ (v0 : Value) (x : Int32) (w1 : Int32) (st : List Value) (h : mr_h) (Q : Option Value → mr_h → Prop), mr_wp 178 41 [v0, .int w1, .int x] st h Q = mr_wp 178 44 [v0, .int w1, .int (x + (1))] st h Q) ∧
    (∀ (v0 v1 v2 : Value) (st : List Value) (h : mr_h) (Q : Option Value → mr_h → Prop), mr_wp 178 44 [v0, v1, v2] st h Q = mr_wp 178 18 [v0, v1, v2] st h Q) ∧
    (∀ (v1 v2 : Value) (x : Nat) (st : List Value) (h : mr_h) (Q : Option Value → mr_h → Prop), mr_wp 178 47 [.ref x, v1, v2] st h Q = mr_wp 178 48 [.ref x, v1, v2] (.ref x :: st) h Q) ∧
    (∀ (v0 v1 v2 : Value) (a : Nat) (st : List Value) (h : mr_h) (Q : Option Value → mr_h → Prop), mr_wp 178 48 [v0, v1, v2] (.ref a :: st) h Q = mr_gf (h.1 a) 11 15 (fun v => mr_wp 178 51 [v0, v1, v2] (v :: st) h Q)) ∧
    (∀ (v0 v2 : Value) (x : Int32) (st : List Value) (h : mr_h) (Q : Option Value → mr_h → Prop), mr_wp 178 51 [v0, .int x, v2] st h Q = mr_wp 178 52 [v0, .int x, v2] (.int x :: st) h Q) ∧
    (∀ (v0 v1 v2 : Value) (st : List Value) (h : mr_h) (Q : Option Value → mr_h → Prop), mr_wp 178 52 [v0, v1, v2] st h Q = mr_wp 178 53 [v0, v1, v2] (.int (1) :: st) h Q) ∧
    (∀ (v0 v1 v2 : Value) (a : Nat) (x : Int32) (y : Int32) (st : List Value) (h : mr_h) (Q : Option Value → mr_h → Prop), mr_wp 178 53 [v0, v1, v2] (.int y :: .int x :: .ref a :: st) h Q = mr_sz (h.1 a) x y (fun c => mr_wp 178 54 [v0, v1, v2] st (mr_up h a c) Q)) ∧
    (∀ (v1 v2 : Value) (x : Nat) (st : List Value) (h : mr_h) (Q : Option Value → mr_h → Prop), mr_wp 178 54 [.ref x, v1, v2] st h Q = mr_wp 178 55 [.ref x, v1, v2] (.ref x :: st) h Q) ∧
    (∀ (v1 v2 : Value) (x : Nat) (st : List Value) (h : mr_h) (Q : Option Value → mr_h → Prop), mr_wp 178 55 [.ref x, v1, v2] st h Q = mr_wp 178 56 [.ref x, v1, v2] (.ref x :: st) h Q) ∧
    (∀ (v0 v1 v2 : Value) (a : Nat) (st : List Value) (h : mr_h) (Q : Option Value → mr_h → Prop), mr_wp 178 56 [v0, v1, v2] (.ref a :: st) h Q = mr_gf (h.1 a) 11 12 (fun v => mr_wp 178 59 [v0, v1, v2] (v :: st) h Q)) ∧
    (∀ (v0 v1 v2 : Value) (a0 : Nat) (o : Nat) (h : mr_h) (Q : Option Value → mr_h → Prop), mr_wp 178 59 [v0, v1, v2] [.ref a0, .ref o] h Q = mr_rc (h.1 o) 11 (mr_run 146 [.ref o, .ref a0] h (fun v h' => mr_wp 178 62 [v0, v1, v2] (v.toList ++ []) h' Q))) ∧
    (∀ (v0 v1 v2 : Value) (x : Int32) (h : mr_h) (Q : Option Value → mr_h → Prop), mr_wp 178 62 [v0, v1, v2] [.int x] h Q = Q (some (.int x)) h) :=
  ⟨fun v1 v2 x st h Q => gx_one (i := .aload_n 0) (len := 1) (by decide +kernel) rfl,
   fun v0 v1 v2 st h Q => gx_one (i := .iconst 0) (len := 1) (by decide +kernel) rfl,
   fun v0 v1 v2 a x st h Q => gx_put (x := 65) (by decide +kernel) (by decide +kernel) ⟨rfl, Or.inl rfl⟩,
   fun v0 v2 x st h Q => gx_one (i := .iload_n 1) (len := 1) (by decide +kernel) rfl,
   fun v0 v1 v2 st h Q => gx_one (i := .iconst 0) (len := 1) (by decide +kernel) rfl,
   fun v0 v1 v2 st h Q => gx_one (i := .iconst 1) (len := 1) (by decide +kernel) rfl,
   fun v0 v1 v2 a0 a1 a2 h Q => gx_stat (x := 69) (t := 121) (n := 3) (by decide +kernel) (by decide +kernel) (by decide) (by decide +kernel) rfl (Or.inl (Nat.le_of_ble_eq_true rfl)) (by show _ ≤ mr_mxl 121; rw [show mr_mxl 121 = 3 from by decide +kernel]; exact Nat.le_of_ble_eq_true rfl),
   fun v0 v1 v2 x st h Q => gx_br (i := .ifCond .ne 5) (len := 3) (c := .ne) (by decide +kernel) rfl rfl,
   fun v0 v1 v2 st h Q => gx_one (i := .iconst (-1)) (len := 1) (by decide +kernel) rfl,
   fun v0 v1 v2 x h Q => gx_ret (i := .ireturn) (len := 1) (by decide +kernel) rfl rfl (by simp only [mr_rt, if_pos]; rw [if_pos (Or.inl (by decide +kernel))]),
   fun v0 v1 v2 st h Q => gx_one (i := .iconst 0) (len := 1) (by decide +kernel) rfl,
   fun v0 v2 w1 x st h Q => gx_one (i := .istore_n 2) (len := 1) (by decide +kernel) rfl,
   fun v0 v1 v2 st h Q => gx_one (i := .bipush 24) (len := 2) (by decide +kernel) rfl,
   fun v0 v1 v2 x y st h Q => gx_br (i := .if_icmp .ge 26) (len := 3) (c := .ge) (by decide +kernel) rfl rfl,
   fun v1 v2 x st h Q => gx_one (i := .aload_n 0) (len := 1) (by decide +kernel) rfl,
   fun v0 v1 v2 a st h Q => gx_get (x := 22) (by decide +kernel) (by decide +kernel),
   fun v0 v1 v2 st h Q => gx_one (i := .bipush 24) (len := 2) (by decide +kernel) rfl,
   fun v0 v2 x st h Q => gx_one (i := .iload_n 1) (len := 1) (by decide +kernel) rfl,
   fun v0 v1 v2 x y st h Q => gx_one (i := .imul) (len := 1) (by decide +kernel) rfl,
   fun v0 v1 x st h Q => gx_one (i := .iload_n 2) (len := 1) (by decide +kernel) rfl,
   fun v0 v1 v2 x y st h Q => gx_one (i := .iadd) (len := 1) (by decide +kernel) rfl,
   fun v1 v2 x st h Q => gx_one (i := .aload_n 0) (len := 1) (by decide +kernel) rfl,
   fun v0 v1 v2 a st h Q => gx_get (x := 16) (by decide +kernel) (by decide +kernel),
   fun v0 v1 x st h Q => gx_one (i := .iload_n 2) (len := 1) (by decide +kernel) rfl,
   fun v0 v1 v2 a x st h Q => gx_iald (by decide +kernel),
   fun v0 v1 v2 a x y st h Q => gx_iast (by decide +kernel),
   fun v0 x w1 st h Q => gx_one (i := .iinc 2 1) (len := 3) (by decide +kernel) rfl,
   fun v0 v1 v2 st h Q => gx_one (i := .goto (-26)) (len := 3) (by decide +kernel) rfl,
   fun v1 v2 x st h Q => gx_one (i := .aload_n 0) (len := 1) (by decide +kernel) rfl,
   fun v0 v1 v2 a st h Q => gx_get (x := 25) (by decide +kernel) (by decide +kernel),
   fun v0 v2 x st h Q => gx_one (i := .iload_n 1) (len := 1) (by decide +kernel) rfl,
   fun v0 v1 v2 st h Q => gx_one (i := .iconst 1) (len := 1) (by decide +kernel) rfl,
   fun v0 v1 v2 a x y st h Q => gx_zast (by decide +kernel),
   fun v1 v2 x st h Q => gx_one (i := .aload_n 0) (len := 1) (by decide +kernel) rfl,
   fun v1 v2 x st h Q => gx_one (i := .aload_n 0) (len := 1) (by decide +kernel) rfl,
   fun v0 v1 v2 a st h Q => gx_get (x := 16) (by decide +kernel) (by decide +kernel),
   fun v0 v1 v2 a0 o h Q => gx_virt (x := 189) (n := 1) (by decide +kernel) (by decide +kernel) rfl (Or.inl (Nat.le_of_ble_eq_true rfl)) (by show _ ≤ mr_mxl 146; rw [show mr_mxl 146 = 4 from by decide +kernel]; exact Nat.le_of_ble_eq_true rfl) (by decide +kernel),
   fun v0 v1 v2 x h Q => gx_ret (i := .ireturn) (len := 1) (by decide +kernel) rfl rfl (by simp only [mr_rt, if_pos]; rw [if_pos (Or.inl (by decide +kernel))])⟩
theorem s_mo_back_30 (v0 v1 : Value) (x : Int32) (st : List Value) (h : mr_h) (Q : Option Value → mr_h → Prop) : mr_wp 179 30 [v0, v1, .int x] st h Q = mr_wp 179 31 [v0, v1, .int x] (.int x :: st) h Q := gx_one (i := .iload_n 2) (len := 1) (by decide +kernel) rfl
theorem S_mo_back_0 : (∀ (v1 v2 : Value) (x : Nat) (st : List Value) (h : mr_h) (Q : Option Value → mr_h → Prop), mr_wp 179 0 [.ref x, v1, v2] st h Q = mr_wp 179 1 [.ref x, v1, v2] (.ref x :: st) h Q) ∧
    (∀ (v0 v1 v2 : Value) (st : List Value) (h : mr_h) (Q : Option Value → mr_h → Prop), mr_wp 179 1 [v0, v1, v2] st h Q = mr_wp 179 2 [v0, v1, v2] (.int (0) :: st) h Q) ∧
    (∀ (v0 v1 v2 : Value) (a : Nat) (x : Int32) (st : List Value) (h : mr_h) (Q : Option Value → mr_h → Prop), mr_wp 179 2 [v0, v1, v2] (.int x :: .ref a :: st) h Q = mr_pf (h.1 a) 11 0 (.int x) (fun c => mr_wp 179 5 [v0, v1, v2] st (mr_up h a c) Q)) ∧
    (∀ (v0 v2 : Value) (x : Int32) (st : List Value) (h : mr_h) (Q : Option Value → mr_h → Prop), mr_wp 179 5 [v0, .int x, v2] st h Q = mr_wp 179 6 [v0, .int x, v2] (.int x :: st) h Q) ∧
    (∀ (v0 v1 v2 : Value) (st : List Value) (h : mr_h) (Q : Option Value → mr_h → Prop), mr_wp 179 6 [v0, v1, v2] st h Q = mr_wp 179 7 [v0, v1, v2] (.int (0) :: st) h Q) ∧
    (∀ (v0 v1 v2 : Value) (st : List Value) (h : mr_h) (Q : Option Value → mr_h → Prop), mr_wp 179 7 [v0, v1, v2] st h Q = mr_wp 179 8 [v0, v1, v2] (.int (1) :: st) h Q) ∧
    (∀ (v0 v1 v2 : Value) (a0 : Int32) (a1 : Int32) (a2 : Int32) (h : mr_h) (Q : Option Value → mr_h → Prop), mr_wp 179 8 [v0, v1, v2] [.int a2, .int a1, .int a0] h Q = mr_run 121 [.int a0, .int a1, .int a2] h (fun v h' => mr_wp 179 11 [v0, v1, v2] (v.toList ++ []) h' Q)) ∧
    (∀ (v0 v1 v2 : Value) (x : Int32) (st : List Value) (h : mr_h) (Q : Option Value → mr_h → Prop), mr_wp 179 11 [v0, v1, v2] (.int x :: st) h Q = if ¬ x = 0 then mr_wp 179 16 [v0, v1, v2] st h Q else mr_wp 179 14 [v0, v1, v2] st h Q) ∧
    (∀ (v0 v1 v2 : Value) (st : List Value) (h : mr_h) (Q : Option Value → mr_h → Prop), mr_wp 179 14 [v0, v1, v2] st h Q = mr_wp 179 15 [v0, v1, v2] (.int (-1) :: st) h Q) ∧
    (∀ (v0 v1 v2 : Value) (x : Int32) (h : mr_h) (Q : Option Value → mr_h → Prop), mr_wp 179 15 [v0, v1, v2] [.int x] h Q = Q (some (.int x)) h) ∧
    (∀ (v1 v2 : Value) (x : Nat) (st : List Value) (h : mr_h) (Q : Option Value → mr_h → Prop), mr_wp 179 16 [.ref x, v1, v2] st h Q = mr_wp 179 17 [.ref x, v1, v2] (.ref x :: st) h Q) ∧
    (∀ (v0 v1 v2 : Value) (a : Nat) (st : List Value) (h : mr_h) (Q : Option Value → mr_h → Prop), mr_wp 179 17 [v0, v1, v2] (.ref a :: st) h Q = mr_gf (h.1 a) 11 15 (fun v => mr_wp 179 20 [v0, v1, v2] (v :: st) h Q)) ∧
    (∀ (v0 v2 : Value) (x : Int32) (st : List Value) (h : mr_h) (Q : Option Value → mr_h → Prop), mr_wp 179 20 [v0, .int x, v2] st h Q = mr_wp 179 21 [v0, .int x, v2] (.int x :: st) h Q) ∧
    (∀ (v0 v1 v2 : Value) (a : Nat) (x : Int32) (st : List Value) (h : mr_h) (Q : Option Value → mr_h → Prop), mr_wp 179 21 [v0, v1, v2] (.int x :: .ref a :: st) h Q = mr_az (h.1 a) x (fun v => mr_wp 179 22 [v0, v1, v2] (.int v :: st) h Q)) ∧
    (∀ (v0 v1 v2 : Value) (x : Int32) (st : List Value) (h : mr_h) (Q : Option Value → mr_h → Prop), mr_wp 179 22 [v0, v1, v2] (.int x :: st) h Q = if ¬ x = 0 then mr_wp 179 28 [v0, v1, v2] st h Q else mr_wp 179 25 [v0, v1, v2] st h Q) ∧
    (∀ (v0 v1 v2 : Value) (st : List Value) (h : mr_h) (Q : Option Value → mr_h → Prop), mr_wp 179 25 [v0, v1, v2] st h Q = mr_wp 179 27 [v0, v1, v2] (.int (-2) :: st) h Q) ∧
    (∀ (v0 v1 v2 : Value) (x : Int32) (h : mr_h) (Q : Option Value → mr_h → Prop), mr_wp 179 27 [v0, v1, v2] [.int x] h Q = Q (some (.int x)) h) ∧
    (∀ (v0 v1 v2 : Value) (st : List Value) (h : mr_h) (Q : Option Value → mr_h → Prop), mr_wp 179 28 [v0, v1, v2] st h Q = mr_wp 179 29 [v0, v1, v2] (.int (0) :: st) h Q) ∧
    (∀ (v0 v2 : Value) (w1 : Int32) (x : Int32) (st : List Value) (h : mr_h) (Q : Option Value → mr_h → Prop), mr_wp 179 29 [v0, .int w1, v2] (.int x :: st) h Q = mr_wp 179 30 [v0, .int w1, .int x] st h Q) ∧
    (∀ (v0 v1 v2 : Value) (st : List Value) (h : mr_h) (Q : Option Value → mr_h → Prop), mr_wp 179 31 [v0, v1, v2] st h Q = mr_wp 179 33 [v0, v1, v2] (.int (24) :: st) h Q) ∧
    (∀ (v0 v1 v2 : Value) (x : Int32) (y : Int32) (st : List Value) (h : mr_h) (Q : Option Value → mr_h → Prop), mr_wp 179 33 [v0, v1, v2] (.int y :: .int x :: st) h Q = if y ≤ x then mr_wp 179 59 [v0, v1, v2] st h Q else mr_wp 179 36 [v0, v1, v2] st h Q) ∧
    (∀ (v1 v2 : Value) (x : Nat) (st : List Value) (h : mr_h) (Q : Option Value → mr_h → Prop), mr_wp 179 36 [.ref x, v1, v2] st h Q = mr_wp 179 37 [.ref x, v1, v2] (.ref x :: st) h Q) ∧
    (∀ (v0 v1 v2 : Value) (a : Nat) (st : List Value) (h : mr_h) (Q : Option Value → mr_h → Prop), mr_wp 179 37 [v0, v1, v2] (.ref a :: st) h Q = mr_gf (h.1 a) 11 12 (fun v => mr_wp 179 40 [v0, v1, v2] (v :: st) h Q)) ∧
    (∀ (v0 v1 : Value) (x : Int32) (st : List Value) (h : mr_h) (Q : Option Value → mr_h → Prop), mr_wp 179 40 [v0, v1, .int x] st h Q = mr_wp 179 41 [v0, v1, .int x] (.int x :: st) h Q) ∧
    (∀ (v1 v2 : Value) (x : Nat) (st : List Value) (h : mr_h) (Q : Option Value → mr_h → Prop), mr_wp 179 41 [.ref x, v1, v2] st h Q = mr_wp 179 42 [.ref x, v1, v2] (.ref x :: st) h Q) ∧
    (∀ (v0 v1 v2 : Value) (a : Nat) (st : List Value) (h : mr_h) (Q : Option Value → mr_h → Prop), mr_wp 179 42 [v0, v1, v2] (.ref a :: st) h Q = mr_gf (h.1 a) 11 14 (fun v => mr_wp 179 45 [v0, v1, v2] (v :: st) h Q)) ∧
    (∀ (v0 v1 v2 : Value) (st : List Value) (h : mr_h) (Q : Option Value → mr_h → Prop), mr_wp 179 45 [v0, v1, v2] st h Q = mr_wp 179 47 [v0, v1, v2] (.int (24) :: st) h Q) ∧
    (∀ (v0 v2 : Value) (x : Int32) (st : List Value) (h : mr_h) (Q : Option Value → mr_h → Prop), mr_wp 179 47 [v0, .int x, v2] st h Q = mr_wp 179 48 [v0, .int x, v2] (.int x :: st) h Q) ∧
    (∀ (v0 v1 v2 : Value) (x : Int32) (y : Int32) (st : List Value) (h : mr_h) (Q : Option Value → mr_h → Prop), mr_wp 179 48 [v0, v1, v2] (.int y :: .int x :: st) h Q = mr_wp 179 49 [v0, v1, v2] (.int (x * y) :: st) h Q) ∧
    (∀ (v0 v1 : Value) (x : Int32) (st : List Value) (h : mr_h) (Q : Option Value → mr_h → Prop), mr_wp 179 49 [v0, v1, .int x] st h Q = mr_wp 179 50 [v0, v1, .int x] (.int x :: st) h Q) ∧
    (∀ (v0 v1 v2 : Value) (x : Int32) (y : Int32) (st : List Value) (h : mr_h) (Q : Option Value → mr_h → Prop), mr_wp 179 50 [v0, v1, v2] (.int y :: .int x :: st) h Q = mr_wp 179 51 [v0, v1, v2] (.int (x + y) :: st) h Q) ∧
    (∀ (v0 v1 v2 : Value) (a : Nat) (x : Int32) (st : List Value) (h : mr_h) (Q : Option Value → mr_h → Prop), mr_wp 179 51 [v0, v1, v2] (.int x :: .ref a :: st) h Q = mr_ai (h.1 a) x (fun v => mr_wp 179 52 [v0, v1, v2] (.int v :: st) h Q)) ∧
    (∀ (v0 v1 v2 : Value) (a : Nat) (x : Int32) (y : Int32) (st : List Value) (h : mr_h) (Q : Option Value → mr_h → Prop), mr_wp 179 52 [v0, v1, v2] (.int y :: .int x :: .ref a :: st) h Q = mr_si (h.1 a) x y (fun c => mr_wp 179 53 [v0, v1, v2] st (mr_up h a c) Q)) ∧
    (∀ (v0 : Value) (x : Int32) (w1 : Int32) (st : List Value) (h : mr_h) (Q : Option Value → mr_h → Prop), mr_wp 179 53 [v0, .int w1, .int x] st h Q = mr_wp 179 56 [v0, .int w1, .int (x + (1))] st h Q) ∧
    (∀ (v0 v1 v2 : Value) (st : List Value) (h : mr_h) (Q : Option Value → mr_h → Prop), mr_wp 179 56 [v0, v1, v2] st h Q = mr_wp 179 30 [v0, v1, v2] st h Q) ∧
    (∀ (v1 v2 : Value) (x : Nat) (st : List Value) (h : mr_h) (Q : Option Value → mr_h → Prop), mr_wp 179 59 [.ref x, v1, v2] st h Q = mr_wp 179 60 [.ref x, v1, v2] (.ref x :: st) h Q) ∧
    (∀ (v0 v1 v2 : Value) (st : List Value) (h : mr_h) (Q : Option Value → mr_h → Prop), mr_wp 179 60 [v0, v1, v2] st h Q = mr_wp 179 61 [v0, v1, v2] (.int (0) :: st) h Q) ∧
    (∀ (v0 v1 v2 : Value) (a : Nat) (x : Int32) (st : List Value) (h : mr_h) (Q : Option Value → mr_h → Prop), mr_wp 179 61 [v0, v1, v2] (.int x :: .ref a :: st) h Q = mr_pf (h.1 a) 11 17 (.int x) (fun c => mr_wp 179 64 [v0, v1, v2] st (mr_up h a c) Q)) ∧
    (∀ (v1 v2 : Value) (x : Nat) (st : List Value) (h : mr_h) (Q : Option Value → mr_h → Prop), mr_wp 179 64 [.ref x, v1, v2] st h Q = mr_wp 179 65 [.ref x, v1, v2] (.ref x :: st) h Q) ∧
    (∀ (v1 v2 : Value) (x : Nat) (st : List Value) (h : mr_h) (Q : Option Value → mr_h → Prop), mr_wp 179 65 [.ref x, v1, v2] st h Q = mr_wp 179 66 [.ref x, v1, v2] (.ref x :: st) h Q) :=
  ⟨fun v1 v2 x st h Q => gx_one (i := .aload_n 0) (len := 1) (by decide +kernel) rfl,
   fun v0 v1 v2 st h Q => gx_one (i := .iconst 0) (len := 1) (by decide +kernel) rfl,
   fun v0 v1 v2 a x st h Q => gx_put (x := 65) (by decide +kernel) (by decide +kernel) ⟨rfl, Or.inl rfl⟩,
   fun v0 v2 x st h Q => gx_one (i := .iload_n 1) (len := 1) (by decide +kernel) rfl,
   fun v0 v1 v2 st h Q => gx_one (i := .iconst 0) (len := 1) (by decide +kernel) rfl,
   fun v0 v1 v2 st h Q => gx_one (i := .iconst 1) (len := 1) (by decide +kernel) rfl,
   fun v0 v1 v2 a0 a1 a2 h Q => gx_stat (x := 69) (t := 121) (n := 3) (by decide +kernel) (by decide +kernel) (by decide) (by decide +kernel) rfl (Or.inl (Nat.le_of_ble_eq_true rfl)) (by show _ ≤ mr_mxl 121; rw [show mr_mxl 121 = 3 from by decide +kernel]; exact Nat.le_of_ble_eq_true rfl),
   fun v0 v1 v2 x st h Q => gx_br (i := .ifCond .ne 5) (len := 3) (c := .ne) (by decide +kernel) rfl rfl,
   fun v0 v1 v2 st h Q => gx_one (i := .iconst (-1)) (len := 1) (by decide +kernel) rfl,
   fun v0 v1 v2 x h Q => gx_ret (i := .ireturn) (len := 1) (by decide +kernel) rfl rfl (by simp only [mr_rt, if_pos]; rw [if_pos (Or.inl (by decide +kernel))]),
   fun v1 v2 x st h Q => gx_one (i := .aload_n 0) (len := 1) (by decide +kernel) rfl,
   fun v0 v1 v2 a st h Q => gx_get (x := 25) (by decide +kernel) (by decide +kernel),
   fun v0 v2 x st h Q => gx_one (i := .iload_n 1) (len := 1) (by decide +kernel) rfl,
   fun v0 v1 v2 a x st h Q => gx_zald (by decide +kernel),
   fun v0 v1 v2 x st h Q => gx_br (i := .ifCond .ne 6) (len := 3) (c := .ne) (by decide +kernel) rfl rfl,
   fun v0 v1 v2 st h Q => gx_one (i := .bipush (-2)) (len := 2) (by decide +kernel) rfl,
   fun v0 v1 v2 x h Q => gx_ret (i := .ireturn) (len := 1) (by decide +kernel) rfl rfl (by simp only [mr_rt, if_pos]; rw [if_pos (Or.inl (by decide +kernel))]),
   fun v0 v1 v2 st h Q => gx_one (i := .iconst 0) (len := 1) (by decide +kernel) rfl,
   fun v0 v2 w1 x st h Q => gx_one (i := .istore_n 2) (len := 1) (by decide +kernel) rfl,
   fun v0 v1 v2 st h Q => gx_one (i := .bipush 24) (len := 2) (by decide +kernel) rfl,
   fun v0 v1 v2 x y st h Q => gx_br (i := .if_icmp .ge 26) (len := 3) (c := .ge) (by decide +kernel) rfl rfl,
   fun v1 v2 x st h Q => gx_one (i := .aload_n 0) (len := 1) (by decide +kernel) rfl,
   fun v0 v1 v2 a st h Q => gx_get (x := 16) (by decide +kernel) (by decide +kernel),
   fun v0 v1 x st h Q => gx_one (i := .iload_n 2) (len := 1) (by decide +kernel) rfl,
   fun v1 v2 x st h Q => gx_one (i := .aload_n 0) (len := 1) (by decide +kernel) rfl,
   fun v0 v1 v2 a st h Q => gx_get (x := 22) (by decide +kernel) (by decide +kernel),
   fun v0 v1 v2 st h Q => gx_one (i := .bipush 24) (len := 2) (by decide +kernel) rfl,
   fun v0 v2 x st h Q => gx_one (i := .iload_n 1) (len := 1) (by decide +kernel) rfl,
   fun v0 v1 v2 x y st h Q => gx_one (i := .imul) (len := 1) (by decide +kernel) rfl,
   fun v0 v1 x st h Q => gx_one (i := .iload_n 2) (len := 1) (by decide +kernel) rfl,
   fun v0 v1 v2 x y st h Q => gx_one (i := .iadd) (len := 1) (by decide +kernel) rfl,
   fun v0 v1 v2 a x st h Q => gx_iald (by decide +kernel),
   fun v0 v1 v2 a x y st h Q => gx_iast (by decide +kernel),
   fun v0 x w1 st h Q => gx_one (i := .iinc 2 1) (len := 3) (by decide +kernel) rfl,
   fun v0 v1 v2 st h Q => gx_one (i := .goto (-26)) (len := 3) (by decide +kernel) rfl,
   fun v1 v2 x st h Q => gx_one (i := .aload_n 0) (len := 1) (by decide +kernel) rfl,
   fun v0 v1 v2 st h Q => gx_one (i := .iconst 0) (len := 1) (by decide +kernel) rfl,
   fun v0 v1 v2 a x st h Q => gx_put (x := 129) (by decide +kernel) (by decide +kernel) ⟨rfl, Or.inl rfl⟩,
   fun v1 v2 x st h Q => gx_one (i := .aload_n 0) (len := 1) (by decide +kernel) rfl,
   fun v1 v2 x st h Q => gx_one (i := .aload_n 0) (len := 1) (by decide +kernel) rfl⟩
theorem S_mo_back_1 : (∀ (v0 v1 v2 : Value) (a : Nat) (st : List Value) (h : mr_h) (Q : Option Value → mr_h → Prop), mr_wp 179 66 [v0, v1, v2] (.ref a :: st) h Q = mr_gf (h.1 a) 11 12 (fun v => mr_wp 179 69 [v0, v1, v2] (v :: st) h Q)) ∧
    (∀ (v0 v1 v2 : Value) (a0 : Nat) (o : Nat) (h : mr_h) (Q : Option Value → mr_h → Prop), mr_wp 179 69 [v0, v1, v2] [.ref a0, .ref o] h Q = mr_rc (h.1 o) 11 (mr_run 146 [.ref o, .ref a0] h (fun v h' => mr_wp 179 72 [v0, v1, v2] (v.toList ++ []) h' Q))) ∧
    (∀ (v0 v1 v2 : Value) (x : Int32) (h : mr_h) (Q : Option Value → mr_h → Prop), mr_wp 179 72 [v0, v1, v2] [.int x] h Q = Q (some (.int x)) h) :=
  ⟨fun v0 v1 v2 a st h Q => gx_get (x := 16) (by decide +kernel) (by decide +kernel),
   fun v0 v1 v2 a0 o h Q => gx_virt (x := 189) (n := 1) (by decide +kernel) (by decide +kernel) rfl (Or.inl (Nat.le_of_ble_eq_true rfl)) (by show _ ≤ mr_mxl 146; rw [show mr_mxl 146 = 4 from by decide +kernel]; exact Nat.le_of_ble_eq_true rfl) (by decide +kernel),
   fun v0 v1 v2 x h Q => gx_ret (i := .ireturn) (len := 1) (by decide +kernel) rfl rfl (by simp only [mr_rt, if_pos]; rw [if_pos (Or.inl (by decide +kernel))])⟩

theorem S_mo_count : (∀ (v1 : Value) (x : Nat) (st : List Value) (h : mr_h) (Q : Option Value → mr_h → Prop), mr_wp 180 0 [.ref x, v1] st h Q = mr_wp 180 1 [.ref x, v1] (.ref x :: st) h Q) ∧
    (∀ (v0 v1 : Value) (st : List Value) (h : mr_h) (Q : Option Value → mr_h → Prop), mr_wp 180 1 [v0, v1] st h Q = mr_wp 180 2 [v0, v1] (.int (0) :: st) h Q) ∧
    (∀ (v0 v1 : Value) (a : Nat) (x : Int32) (st : List Value) (h : mr_h) (Q : Option Value → mr_h → Prop), mr_wp 180 2 [v0, v1] (.int x :: .ref a :: st) h Q = mr_pf (h.1 a) 11 0 (.int x) (fun c => mr_wp 180 5 [v0, v1] st (mr_up h a c) Q)) ∧
    (∀ (v0 : Value) (x : Int32) (st : List Value) (h : mr_h) (Q : Option Value → mr_h → Prop), mr_wp 180 5 [v0, .int x] st h Q = mr_wp 180 6 [v0, .int x] (.int x :: st) h Q) ∧
    (∀ (v0 v1 : Value) (x : Int32) (st : List Value) (h : mr_h) (Q : Option Value → mr_h → Prop), mr_wp 180 6 [v0, v1] (.int x :: st) h Q = if ¬ x = 0 then mr_wp 180 16 [v0, v1] st h Q else mr_wp 180 9 [v0, v1] st h Q) ∧
    (∀ (v1 : Value) (x : Nat) (st : List Value) (h : mr_h) (Q : Option Value → mr_h → Prop), mr_wp 180 9 [.ref x, v1] st h Q = mr_wp 180 10 [.ref x, v1] (.ref x :: st) h Q) ∧
    (∀ (v0 v1 : Value) (a : Nat) (st : List Value) (h : mr_h) (Q : Option Value → mr_h → Prop), mr_wp 180 10 [v0, v1] (.ref a :: st) h Q = mr_gf (h.1 a) 11 8 (fun v => mr_wp 180 13 [v0, v1] (v :: st) h Q)) ∧
    (∀ (v0 v1 : Value) (st : List Value) (h : mr_h) (Q : Option Value → mr_h → Prop), mr_wp 180 13 [v0, v1] st h Q = mr_wp 180 41 [v0, v1] st h Q) ∧
    (∀ (v0 : Value) (x : Int32) (st : List Value) (h : mr_h) (Q : Option Value → mr_h → Prop), mr_wp 180 16 [v0, .int x] st h Q = mr_wp 180 17 [v0, .int x] (.int x :: st) h Q) ∧
    (∀ (v0 v1 : Value) (st : List Value) (h : mr_h) (Q : Option Value → mr_h → Prop), mr_wp 180 17 [v0, v1] st h Q = mr_wp 180 18 [v0, v1] (.int (1) :: st) h Q) ∧
    (∀ (v0 v1 : Value) (x : Int32) (y : Int32) (st : List Value) (h : mr_h) (Q : Option Value → mr_h → Prop), mr_wp 180 18 [v0, v1] (.int y :: .int x :: st) h Q = if ¬ x = y then mr_wp 180 28 [v0, v1] st h Q else mr_wp 180 21 [v0, v1] st h Q) ∧
    (∀ (v1 : Value) (x : Nat) (st : List Value) (h : mr_h) (Q : Option Value → mr_h → Prop), mr_wp 180 21 [.ref x, v1] st h Q = mr_wp 180 22 [.ref x, v1] (.ref x :: st) h Q) ∧
    (∀ (v0 v1 : Value) (a : Nat) (st : List Value) (h : mr_h) (Q : Option Value → mr_h → Prop), mr_wp 180 22 [v0, v1] (.ref a :: st) h Q = mr_gf (h.1 a) 11 21 (fun v => mr_wp 180 25 [v0, v1] (v :: st) h Q)) ∧
    (∀ (v0 v1 : Value) (st : List Value) (h : mr_h) (Q : Option Value → mr_h → Prop), mr_wp 180 25 [v0, v1] st h Q = mr_wp 180 41 [v0, v1] st h Q) ∧
    (∀ (v0 : Value) (x : Int32) (st : List Value) (h : mr_h) (Q : Option Value → mr_h → Prop), mr_wp 180 28 [v0, .int x] st h Q = mr_wp 180 29 [v0, .int x] (.int x :: st) h Q) ∧
    (∀ (v0 v1 : Value) (st : List Value) (h : mr_h) (Q : Option Value → mr_h → Prop), mr_wp 180 29 [v0, v1] st h Q = mr_wp 180 30 [v0, v1] (.int (2) :: st) h Q) ∧
    (∀ (v0 v1 : Value) (x : Int32) (y : Int32) (st : List Value) (h : mr_h) (Q : Option Value → mr_h → Prop), mr_wp 180 30 [v0, v1] (.int y :: .int x :: st) h Q = if ¬ x = y then mr_wp 180 40 [v0, v1] st h Q else mr_wp 180 33 [v0, v1] st h Q) ∧
    (∀ (v1 : Value) (x : Nat) (st : List Value) (h : mr_h) (Q : Option Value → mr_h → Prop), mr_wp 180 33 [.ref x, v1] st h Q = mr_wp 180 34 [.ref x, v1] (.ref x :: st) h Q) ∧
    (∀ (v0 v1 : Value) (a : Nat) (st : List Value) (h : mr_h) (Q : Option Value → mr_h → Prop), mr_wp 180 34 [v0, v1] (.ref a :: st) h Q = mr_gf (h.1 a) 11 2 (fun v => mr_wp 180 37 [v0, v1] (v :: st) h Q)) ∧
    (∀ (v0 v1 : Value) (st : List Value) (h : mr_h) (Q : Option Value → mr_h → Prop), mr_wp 180 37 [v0, v1] st h Q = mr_wp 180 41 [v0, v1] st h Q) ∧
    (∀ (v0 v1 : Value) (st : List Value) (h : mr_h) (Q : Option Value → mr_h → Prop), mr_wp 180 40 [v0, v1] st h Q = mr_wp 180 41 [v0, v1] (.int (-1) :: st) h Q) ∧
    (∀ (v0 v1 : Value) (x : Int32) (h : mr_h) (Q : Option Value → mr_h → Prop), mr_wp 180 41 [v0, v1] [.int x] h Q = Q (some (.int x)) h) :=
  ⟨fun v1 x st h Q => gx_one (i := .aload_n 0) (len := 1) (by decide +kernel) rfl,
   fun v0 v1 st h Q => gx_one (i := .iconst 0) (len := 1) (by decide +kernel) rfl,
   fun v0 v1 a x st h Q => gx_put (x := 65) (by decide +kernel) (by decide +kernel) ⟨rfl, Or.inl rfl⟩,
   fun v0 x st h Q => gx_one (i := .iload_n 1) (len := 1) (by decide +kernel) rfl,
   fun v0 v1 x st h Q => gx_br (i := .ifCond .ne 10) (len := 3) (c := .ne) (by decide +kernel) rfl rfl,
   fun v1 x st h Q => gx_one (i := .aload_n 0) (len := 1) (by decide +kernel) rfl,
   fun v0 v1 a st h Q => gx_get (x := 123) (by decide +kernel) (by decide +kernel),
   fun v0 v1 st h Q => gx_one (i := .goto 28) (len := 3) (by decide +kernel) rfl,
   fun v0 x st h Q => gx_one (i := .iload_n 1) (len := 1) (by decide +kernel) rfl,
   fun v0 v1 st h Q => gx_one (i := .iconst 1) (len := 1) (by decide +kernel) rfl,
   fun v0 v1 x y st h Q => gx_br (i := .if_icmp .ne 10) (len := 3) (c := .ne) (by decide +kernel) rfl rfl,
   fun v1 x st h Q => gx_one (i := .aload_n 0) (len := 1) (by decide +kernel) rfl,
   fun v0 v1 a st h Q => gx_get (x := 126) (by decide +kernel) (by decide +kernel),
   fun v0 v1 st h Q => gx_one (i := .goto 16) (len := 3) (by decide +kernel) rfl,
   fun v0 x st h Q => gx_one (i := .iload_n 1) (len := 1) (by decide +kernel) rfl,
   fun v0 v1 st h Q => gx_one (i := .iconst 2) (len := 1) (by decide +kernel) rfl,
   fun v0 v1 x y st h Q => gx_br (i := .if_icmp .ne 10) (len := 3) (c := .ne) (by decide +kernel) rfl rfl,
   fun v1 x st h Q => gx_one (i := .aload_n 0) (len := 1) (by decide +kernel) rfl,
   fun v0 v1 a st h Q => gx_get (x := 73) (by decide +kernel) (by decide +kernel),
   fun v0 v1 st h Q => gx_one (i := .goto 4) (len := 3) (by decide +kernel) rfl,
   fun v0 v1 st h Q => gx_one (i := .iconst (-1)) (len := 1) (by decide +kernel) rfl,
   fun v0 v1 x h Q => gx_ret (i := .ireturn) (len := 1) (by decide +kernel) rfl rfl (by simp only [mr_rt, if_pos]; rw [if_pos (Or.inl (by decide +kernel))])⟩
