/-! step equations, printed by wip/whole/gen12run.py; S_x: all of a method but the heads of its loops; s_x_pc: a head -/
theorem S_rl_isChoice : (∀ (x : Int32) (st : List Value) (h : mr_h) (Q : Option Value → mr_h → Prop), mr_wp 82 0 [.int x] st h Q = mr_wp 82 1 [.int x] (.int x :: st) h Q) ∧
    (∀ (v0 : Value) (x : Int32) (st : List Value) (h : mr_h) (Q : Option Value → mr_h → Prop), mr_wp 82 1 [v0] (.int x :: st) h Q = if x = 0 then mr_wp 82 9 [v0] st h Q else mr_wp 82 4 [v0] st h Q) ∧
    (∀ (x : Int32) (st : List Value) (h : mr_h) (Q : Option Value → mr_h → Prop), mr_wp 82 4 [.int x] st h Q = mr_wp 82 5 [.int x] (.int x :: st) h Q) ∧
    (∀ (v0 : Value) (st : List Value) (h : mr_h) (Q : Option Value → mr_h → Prop), mr_wp 82 5 [v0] st h Q = mr_wp 82 6 [v0] (.int (1) :: st) h Q) ∧
    (∀ (v0 : Value) (x : Int32) (y : Int32) (st : List Value) (h : mr_h) (Q : Option Value → mr_h → Prop), mr_wp 82 6 [v0] (.int y :: .int x :: st) h Q = if ¬ x = y then mr_wp 82 13 [v0] st h Q else mr_wp 82 9 [v0] st h Q) ∧
    (∀ (v0 : Value) (st : List Value) (h : mr_h) (Q : Option Value → mr_h → Prop), mr_wp 82 9 [v0] st h Q = mr_wp 82 10 [v0] (.int (1) :: st) h Q) ∧
    (∀ (v0 : Value) (st : List Value) (h : mr_h) (Q : Option Value → mr_h → Prop), mr_wp 82 10 [v0] st h Q = mr_wp 82 14 [v0] st h Q) ∧
    (∀ (v0 : Value) (st : List Value) (h : mr_h) (Q : Option Value → mr_h → Prop), mr_wp 82 13 [v0] st h Q = mr_wp 82 14 [v0] (.int (0) :: st) h Q) ∧
    (∀ (v0 : Value) (x : Int32) (h : mr_h) (Q : Option Value → mr_h → Prop) (hv : x &&& 1 = x), mr_wp 82 14 [v0] [.int x] h Q = Q (some (.int x)) h) :=
  ⟨fun x st h Q => gx_one (i := .iload_n 0) (len := 1) (by decide +kernel) rfl,
   fun v0 x st h Q => gx_br (i := .ifCond .eq 8) (len := 3) (c := .eq) (by decide +kernel) rfl rfl,
   fun x st h Q => gx_one (i := .iload_n 0) (len := 1) (by decide +kernel) rfl,
   fun v0 st h Q => gx_one (i := .iconst 1) (len := 1) (by decide +kernel) rfl,
   fun v0 x y st h Q => gx_br (i := .if_icmp .ne 7) (len := 3) (c := .ne) (by decide +kernel) rfl rfl,
   fun v0 st h Q => gx_one (i := .iconst 1) (len := 1) (by decide +kernel) rfl,
   fun v0 st h Q => gx_one (i := .goto 4) (len := 3) (by decide +kernel) rfl,
   fun v0 st h Q => gx_one (i := .iconst 0) (len := 1) (by decide +kernel) rfl,
   fun v0 x h Q hv => gx_ret (i := .ireturn) (len := 1) (by decide +kernel) rfl rfl (by simp only [mr_rt, if_pos]; rw [if_pos (Or.inr ⟨by decide +kernel, hv⟩)])⟩
theorem s_wa_onEvery_17 (v0 v1 v2 v3 v4 v5 : Value) (x : Int32) (st : List Value) (h : mr_h) (Q : Option Value → mr_h → Prop) : mr_wp 83 17 [v0, v1, v2, v3, v4, v5, .int x] st h Q = mr_wp 83 19 [v0, v1, v2, v3, v4, v5, .int x] (.int x :: st) h Q := gx_one (i := .iload 6) (len := 2) (by decide +kernel) rfl
theorem S_wa_onEvery : (∀ (v0 v1 v2 v3 v5 v6 : Value) (x : Int32) (st : List Value) (h : mr_h) (Q : Option Value → mr_h → Prop), mr_wp 83 0 [v0, v1, v2, v3, .int x, v5, v6] st h Q = mr_wp 83 2 [v0, v1, v2, v3, .int x, v5, v6] (.int x :: st) h Q) ∧
    (∀ (v0 v1 v3 v4 v5 v6 : Value) (x : Int32) (st : List Value) (h : mr_h) (Q : Option Value → mr_h → Prop), mr_wp 83 2 [v0, v1, .int x, v3, v4, v5, v6] st h Q = mr_wp 83 3 [v0, v1, .int x, v3, v4, v5, v6] (.int x :: st) h Q) ∧
    (∀ (v0 v1 v2 v3 v4 v5 v6 : Value) (a0 : Int32) (r0 : Value) (h : mr_h) (Q : Option Value → mr_h → Prop), mr_wp 83 3 [v0, v1, v2, v3, v4, v5, v6] [.int a0, r0] h Q = mr_run 16 [.int a0] h (fun v h' => mr_wp 83 6 [v0, v1, v2, v3, v4, v5, v6] (v.toList ++ [r0]) h' Q)) ∧
    (∀ (v0 v1 v2 v4 v5 v6 : Value) (x : Int32) (st : List Value) (h : mr_h) (Q : Option Value → mr_h → Prop), mr_wp 83 6 [v0, v1, v2, .int x, v4, v5, v6] st h Q = mr_wp 83 7 [v0, v1, v2, .int x, v4, v5, v6] (.int x :: st) h Q) ∧
    (∀ (v0 v1 v2 v3 v4 v5 v6 : Value) (a0 : Int32) (r0 : Value) (r1 : Value) (h : mr_h) (Q : Option Value → mr_h → Prop), mr_wp 83 7 [v0, v1, v2, v3, v4, v5, v6] [.int a0, r0, r1] h Q = mr_run 16 [.int a0] h (fun v h' => mr_wp 83 10 [v0, v1, v2, v3, v4, v5, v6] (v.toList ++ [r0, r1]) h' Q)) ∧
    (∀ (v0 v1 v2 v3 v4 v5 v6 : Value) (x : Int32) (y : Int32) (st : List Value) (h : mr_h) (Q : Option Value → mr_h → Prop), mr_wp 83 10 [v0, v1, v2, v3, v4, v5, v6] (.int y :: .int x :: st) h Q = mr_wp 83 11 [v0, v1, v2, v3, v4, v5, v6] (.int (x ||| y) :: st) h Q) ∧
    (∀ (v0 v1 v2 v3 v4 v5 v6 : Value) (x : Int32) (y : Int32) (st : List Value) (h : mr_h) (Q : Option Value → mr_h → Prop), mr_wp 83 11 [v0, v1, v2, v3, v4, v5, v6] (.int y :: .int x :: st) h Q = mr_wp 83 12 [v0, v1, v2, v3, v4, v5, v6] (.int (x &&& y) :: st) h Q) ∧
    (∀ (v0 v1 v2 v3 v5 v6 : Value) (w4 : Int32) (x : Int32) (st : List Value) (h : mr_h) (Q : Option Value → mr_h → Prop), mr_wp 83 12 [v0, v1, v2, v3, .int w4, v5, v6] (.int x :: st) h Q = mr_wp 83 14 [v0, v1, v2, v3, .int w4, .int x, v6] st h Q) ∧
    (∀ (v0 v1 v2 v3 v4 v5 v6 : Value) (st : List Value) (h : mr_h) (Q : Option Value → mr_h → Prop), mr_wp 83 14 [v0, v1, v2, v3, v4, v5, v6] st h Q = mr_wp 83 15 [v0, v1, v2, v3, v4, v5, v6] (.int (0) :: st) h Q) ∧
    (∀ (v0 v1 v2 v3 v4 v6 : Value) (w5 : Int32) (x : Int32) (st : List Value) (h : mr_h) (Q : Option Value → mr_h → Prop), mr_wp 83 15 [v0, v1, v2, v3, v4, .int w5, v6] (.int x :: st) h Q = mr_wp 83 17 [v0, v1, v2, v3, v4, .int w5, .int x] st h Q) ∧
    (∀ (v0 v2 v3 v4 v5 v6 : Value) (x : Nat) (st : List Value) (h : mr_h) (Q : Option Value → mr_h → Prop), mr_wp 83 19 [v0, .ref x, v2, v3, v4, v5, v6] st h Q = mr_wp 83 20 [v0, .ref x, v2, v3, v4, v5, v6] (.ref x :: st) h Q) ∧
    (∀ (v0 v1 v2 v3 v4 v5 v6 : Value) (a : Nat) (st : List Value) (h : mr_h) (Q : Option Value → mr_h → Prop), mr_wp 83 20 [v0, v1, v2, v3, v4, v5, v6] (.ref a :: st) h Q = mr_gf (h.1 a) 3 0 (fun v => mr_wp 83 23 [v0, v1, v2, v3, v4, v5, v6] (v :: st) h Q)) ∧
    (∀ (v0 v1 v2 v3 v4 v5 v6 : Value) (x : Int32) (y : Int32) (st : List Value) (h : mr_h) (Q : Option Value → mr_h → Prop), mr_wp 83 23 [v0, v1, v2, v3, v4, v5, v6] (.int y :: .int x :: st) h Q = if y ≤ x then mr_wp 83 77 [v0, v1, v2, v3, v4, v5, v6] st h Q else mr_wp 83 26 [v0, v1, v2, v3, v4, v5, v6] st h Q) ∧
    (∀ (v0 v1 v2 v3 v5 v6 : Value) (x : Int32) (st : List Value) (h : mr_h) (Q : Option Value → mr_h → Prop), mr_wp 83 26 [v0, v1, v2, v3, .int x, v5, v6] st h Q = mr_wp 83 28 [v0, v1, v2, v3, .int x, v5, v6] (.int x :: st) h Q) ∧
    (∀ (v0 v1 v2 v3 v4 v6 : Value) (x : Int32) (st : List Value) (h : mr_h) (Q : Option Value → mr_h → Prop), mr_wp 83 28 [v0, v1, v2, v3, v4, .int x, v6] st h Q = mr_wp 83 30 [v0, v1, v2, v3, v4, .int x, v6] (.int x :: st) h Q) ∧
    (∀ (v0 v1 v2 v3 v4 v5 v6 : Value) (st : List Value) (h : mr_h) (Q : Option Value → mr_h → Prop), mr_wp 83 30 [v0, v1, v2, v3, v4, v5, v6] st h Q = mr_wp 83 31 [v0, v1, v2, v3, v4, v5, v6] (.int (-1) :: st) h Q) ∧
    (∀ (v0 v1 v2 v3 v4 v5 v6 : Value) (x : Int32) (y : Int32) (st : List Value) (h : mr_h) (Q : Option Value → mr_h → Prop), mr_wp 83 31 [v0, v1, v2, v3, v4, v5, v6] (.int y :: .int x :: st) h Q = mr_wp 83 32 [v0, v1, v2, v3, v4, v5, v6] (.int (x ^^^ y) :: st) h Q) ∧
    (∀ (v0 v1 v2 v3 v4 v5 v6 : Value) (x : Int32) (y : Int32) (st : List Value) (h : mr_h) (Q : Option Value → mr_h → Prop), mr_wp 83 32 [v0, v1, v2, v3, v4, v5, v6] (.int y :: .int x :: st) h Q = mr_wp 83 33 [v0, v1, v2, v3, v4, v5, v6] (.int (x &&& y) :: st) h Q) ∧
    (∀ (v0 v1 v2 v3 v4 v5 : Value) (x : Int32) (st : List Value) (h : mr_h) (Q : Option Value → mr_h → Prop), mr_wp 83 33 [v0, v1, v2, v3, v4, v5, .int x] st h Q = mr_wp 83 35 [v0, v1, v2, v3, v4, v5, .int x] (.int x :: st) h Q) ∧
    (∀ (v0 v1 v2 v3 v4 v5 v6 : Value) (a0 : Int32) (a1 : Int32) (h : mr_h) (Q : Option Value → mr_h → Prop), mr_wp 83 35 [v0, v1, v2, v3, v4, v5, v6] [.int a1, .int a0] h Q = mr_run 17 [.int a0, .int a1] h (fun v h' => mr_wp 83 38 [v0, v1, v2, v3, v4, v5, v6] (v.toList ++ []) h' Q)) ∧
    (∀ (v0 v1 v2 v3 v4 v5 v6 : Value) (x : Int32) (st : List Value) (h : mr_h) (Q : Option Value → mr_h → Prop), mr_wp 83 38 [v0, v1, v2, v3, v4, v5, v6] (.int x :: st) h Q = if x = 0 then mr_wp 83 71 [v0, v1, v2, v3, v4, v5, v6] st h Q else mr_wp 83 41 [v0, v1, v2, v3, v4, v5, v6] st h Q) ∧
    (∀ (v0 v2 v3 v4 v5 v6 : Value) (x : Nat) (st : List Value) (h : mr_h) (Q : Option Value → mr_h → Prop), mr_wp 83 41 [v0, .ref x, v2, v3, v4, v5, v6] st h Q = mr_wp 83 42 [v0, .ref x, v2, v3, v4, v5, v6] (.ref x :: st) h Q) ∧
    (∀ (v0 v1 v3 v4 v5 v6 : Value) (x : Int32) (st : List Value) (h : mr_h) (Q : Option Value → mr_h → Prop), mr_wp 83 42 [v0, v1, .int x, v3, v4, v5, v6] st h Q = mr_wp 83 43 [v0, v1, .int x, v3, v4, v5, v6] (.int x :: st) h Q) ∧
    (∀ (v0 v1 v2 v3 v4 v5 v6 : Value) (a0 : Int32) (r0 : Value) (h : mr_h) (Q : Option Value → mr_h → Prop), mr_wp 83 43 [v0, v1, v2, v3, v4, v5, v6] [.int a0, r0] h Q = mr_run 16 [.int a0] h (fun v h' => mr_wp 83 46 [v0, v1, v2, v3, v4, v5, v6] (v.toList ++ [r0]) h' Q)) ∧
    (∀ (v0 v1 v2 v3 v4 v5 : Value) (x : Int32) (st : List Value) (h : mr_h) (Q : Option Value → mr_h → Prop), mr_wp 83 46 [v0, v1, v2, v3, v4, v5, .int x] st h Q = mr_wp 83 48 [v0, v1, v2, v3, v4, v5, .int x] (.int x :: st) h Q) ∧
    (∀ (v0 v1 v2 v3 v4 v5 v6 : Value) (a0 : Int32) (r0 : Value) (r1 : Value) (h : mr_h) (Q : Option Value → mr_h → Prop), mr_wp 83 48 [v0, v1, v2, v3, v4, v5, v6] [.int a0, r0, r1] h Q = mr_run 16 [.int a0] h (fun v h' => mr_wp 83 51 [v0, v1, v2, v3, v4, v5, v6] (v.toList ++ [r0, r1]) h' Q)) ∧
    (∀ (v0 v1 v2 v3 v4 v5 v6 : Value) (a0 : Int32) (a1 : Int32) (o : Nat) (h : mr_h) (Q : Option Value → mr_h → Prop), mr_wp 83 51 [v0, v1, v2, v3, v4, v5, v6] [.int a1, .int a0, .ref o] h Q = mr_rc (h.1 o) 3 (mr_run 57 [.ref o, .int a0, .int a1] h (fun v h' => mr_wp 83 54 [v0, v1, v2, v3, v4, v5, v6] (v.toList ++ []) h' Q))) ∧
    (∀ (v0 v1 v2 v4 v5 v6 : Value) (x : Int32) (st : List Value) (h : mr_h) (Q : Option Value → mr_h → Prop), mr_wp 83 54 [v0, v1, v2, .int x, v4, v5, v6] st h Q = mr_wp 83 55 [v0, v1, v2, .int x, v4, v5, v6] (.int x :: st) h Q) ∧
    (∀ (v0 v1 v2 v3 v4 v5 v6 : Value) (a0 : Int32) (a1 : Int32) (h : mr_h) (Q : Option Value → mr_h → Prop), mr_wp 83 55 [v0, v1, v2, v3, v4, v5, v6] [.int a1, .int a0] h Q = mr_run 17 [.int a0, .int a1] h (fun v h' => mr_wp 83 58 [v0, v1, v2, v3, v4, v5, v6] (v.toList ++ []) h' Q)) ∧
    (∀ (v0 v1 v2 v3 v4 v5 v6 : Value) (x : Int32) (st : List Value) (h : mr_h) (Q : Option Value → mr_h → Prop), mr_wp 83 58 [v0, v1, v2, v3, v4, v5, v6] (.int x :: st) h Q = if ¬ x = 0 then mr_wp 83 71 [v0, v1, v2, v3, v4, v5, v6] st h Q else mr_wp 83 61 [v0, v1, v2, v3, v4, v5, v6] st h Q) ∧
    (∀ (v0 v1 v2 v3 v4 v6 : Value) (x : Int32) (st : List Value) (h : mr_h) (Q : Option Value → mr_h → Prop), mr_wp 83 61 [v0, v1, v2, v3, v4, .int x, v6] st h Q = mr_wp 83 63 [v0, v1, v2, v3, v4, .int x, v6] (.int x :: st) h Q) ∧
    (∀ (v0 v1 v2 v3 v4 v5 : Value) (x : Int32) (st : List Value) (h : mr_h) (Q : Option Value → mr_h → Prop), mr_wp 83 63 [v0, v1, v2, v3, v4, v5, .int x] st h Q = mr_wp 83 65 [v0, v1, v2, v3, v4, v5, .int x] (.int x :: st) h Q) ∧
    (∀ (v0 v1 v2 v3 v4 v5 v6 : Value) (a0 : Int32) (r0 : Value) (h : mr_h) (Q : Option Value → mr_h → Prop), mr_wp 83 65 [v0, v1, v2, v3, v4, v5, v6] [.int a0, r0] h Q = mr_run 16 [.int a0] h (fun v h' => mr_wp 83 68 [v0, v1, v2, v3, v4, v5, v6] (v.toList ++ [r0]) h' Q)) ∧
    (∀ (v0 v1 v2 v3 v4 v5 v6 : Value) (x : Int32) (y : Int32) (st : List Value) (h : mr_h) (Q : Option Value → mr_h → Prop), mr_wp 83 68 [v0, v1, v2, v3, v4, v5, v6] (.int y :: .int x :: st) h Q = mr_wp 83 69 [v0, v1, v2, v3, v4, v5, v6] (.int (x ||| y) :: st) h Q) ∧
    (∀ (v0 v1 v2 v3 v5 v6 : Value) (w4 : Int32) (x : Int32) (st : List Value) (h : mr_h) (Q : Option Value → mr_h → Prop), mr_wp 83 69 [v0, v1, v2, v3, .int w4, v5, v6] (.int x :: st) h Q = mr_wp 83 71 [v0, v1, v2, v3, .int w4, .int x, v6] st h Q) ∧
    (∀ (v0 v1 v2 v3 v4 : Value) (x : Int32) (w5 : Int32) (st : List Value) (h : mr_h) (Q : Option Value → mr_h → Prop), mr_wp 83 71 [v0, v1, v2, v3, v4, .int w5, .int x] st h Q = mr_wp 83 74 [v0, v1, v2, v3, v4, .int w5, .int (x + (1))] st h Q) ∧
    (∀ (v0 v1 v2 v3 v4 v5 v6 : Value) (st : List Value) (h : mr_h) (Q : Option Value → mr_h → Prop), mr_wp 83 74 [v0, v1, v2, v3, v4, v5, v6] st h Q = mr_wp 83 17 [v0, v1, v2, v3, v4, v5, v6] st h Q) ∧
    (∀ (v0 v1 v2 v3 v4 v6 : Value) (x : Int32) (st : List Value) (h : mr_h) (Q : Option Value → mr_h → Prop), mr_wp 83 77 [v0, v1, v2, v3, v4, .int x, v6] st h Q = mr_wp 83 79 [v0, v1, v2, v3, v4, .int x, v6] (.int x :: st) h Q) ∧
    (∀ (v0 v1 v2 v3 v4 v5 v6 : Value) (x : Int32) (h : mr_h) (Q : Option Value → mr_h → Prop), mr_wp 83 79 [v0, v1, v2, v3, v4, v5, v6] [.int x] h Q = Q (some (.int x)) h) :=
  ⟨fun v0 v1 v2 v3 v5 v6 x st h Q => gx_one (i := .iload 4) (len := 2) (by decide +kernel) rfl,
   fun v0 v1 v3 v4 v5 v6 x st h Q => gx_one (i := .iload_n 2) (len := 1) (by decide +kernel) rfl,
   fun v0 v1 v2 v3 v4 v5 v6 a0 r0 h Q => gx_stat (x := 15) (t := 16) (n := 1) (by decide +kernel) (by decide +kernel) (by decide) (by decide +kernel) rfl (Or.inl (Nat.le_of_ble_eq_true rfl)) (by show _ ≤ mr_mxl 16; rw [show mr_mxl 16 = 1 from by decide +kernel]; exact Nat.le_of_ble_eq_true rfl),
   fun v0 v1 v2 v4 v5 v6 x st h Q => gx_one (i := .iload_n 3) (len := 1) (by decide +kernel) rfl,
   fun v0 v1 v2 v3 v4 v5 v6 a0 r0 r1 h Q => gx_stat (x := 15) (t := 16) (n := 1) (by decide +kernel) (by decide +kernel) (by decide) (by decide +kernel) rfl (Or.inl (Nat.le_of_ble_eq_true rfl)) (by show _ ≤ mr_mxl 16; rw [show mr_mxl 16 = 1 from by decide +kernel]; exact Nat.le_of_ble_eq_true rfl),
   fun v0 v1 v2 v3 v4 v5 v6 x y st h Q => gx_one (i := .ior) (len := 1) (by decide +kernel) rfl,
   fun v0 v1 v2 v3 v4 v5 v6 x y st h Q => gx_one (i := .iand) (len := 1) (by decide +kernel) rfl,
   fun v0 v1 v2 v3 v5 v6 w4 x st h Q => gx_one (i := .istore 5) (len := 2) (by decide +kernel) rfl,
   fun v0 v1 v2 v3 v4 v5 v6 st h Q => gx_one (i := .iconst 0) (len := 1) (by decide +kernel) rfl,
   fun v0 v1 v2 v3 v4 v6 w5 x st h Q => gx_one (i := .istore 6) (len := 2) (by decide +kernel) rfl,
   fun v0 v2 v3 v4 v5 v6 x st h Q => gx_one (i := .aload_n 1) (len := 1) (by decide +kernel) rfl,
   fun v0 v1 v2 v3 v4 v5 v6 a st h Q => gx_get (x := 19) (by decide +kernel) (by decide +kernel),
   fun v0 v1 v2 v3 v4 v5 v6 x y st h Q => gx_br (i := .if_icmp .ge 54) (len := 3) (c := .ge) (by decide +kernel) rfl rfl,
   fun v0 v1 v2 v3 v5 v6 x st h Q => gx_one (i := .iload 4) (len := 2) (by decide +kernel) rfl,
   fun v0 v1 v2 v3 v4 v6 x st h Q => gx_one (i := .iload 5) (len := 2) (by decide +kernel) rfl,
   fun v0 v1 v2 v3 v4 v5 v6 st h Q => gx_one (i := .iconst (-1)) (len := 1) (by decide +kernel) rfl,
   fun v0 v1 v2 v3 v4 v5 v6 x y st h Q => gx_one (i := .ixor) (len := 1) (by decide +kernel) rfl,
   fun v0 v1 v2 v3 v4 v5 v6 x y st h Q => gx_one (i := .iand) (len := 1) (by decide +kernel) rfl,
   fun v0 v1 v2 v3 v4 v5 x st h Q => gx_one (i := .iload 6) (len := 2) (by decide +kernel) rfl,
   fun v0 v1 v2 v3 v4 v5 v6 a0 a1 h Q => gx_stat (x := 25) (t := 17) (n := 2) (by decide +kernel) (by decide +kernel) (by decide) (by decide +kernel) rfl (Or.inl (Nat.le_of_ble_eq_true rfl)) (by show _ ≤ mr_mxl 17; rw [show mr_mxl 17 = 2 from by decide +kernel]; exact Nat.le_of_ble_eq_true rfl),
   fun v0 v1 v2 v3 v4 v5 v6 x st h Q => gx_br (i := .ifCond .eq 33) (len := 3) (c := .eq) (by decide +kernel) rfl rfl,
   fun v0 v2 v3 v4 v5 v6 x st h Q => gx_one (i := .aload_n 1) (len := 1) (by decide +kernel) rfl,
   fun v0 v1 v3 v4 v5 v6 x st h Q => gx_one (i := .iload_n 2) (len := 1) (by decide +kernel) rfl,
   fun v0 v1 v2 v3 v4 v5 v6 a0 r0 h Q => gx_stat (x := 15) (t := 16) (n := 1) (by decide +kernel) (by decide +kernel) (by decide) (by decide +kernel) rfl (Or.inl (Nat.le_of_ble_eq_true rfl)) (by show _ ≤ mr_mxl 16; rw [show mr_mxl 16 = 1 from by decide +kernel]; exact Nat.le_of_ble_eq_true rfl),
   fun v0 v1 v2 v3 v4 v5 x st h Q => gx_one (i := .iload 6) (len := 2) (by decide +kernel) rfl,
   fun v0 v1 v2 v3 v4 v5 v6 a0 r0 r1 h Q => gx_stat (x := 15) (t := 16) (n := 1) (by decide +kernel) (by decide +kernel) (by decide) (by decide +kernel) rfl (Or.inl (Nat.le_of_ble_eq_true rfl)) (by show _ ≤ mr_mxl 16; rw [show mr_mxl 16 = 1 from by decide +kernel]; exact Nat.le_of_ble_eq_true rfl),
   fun v0 v1 v2 v3 v4 v5 v6 a0 a1 o h Q => gx_virt (x := 39) (n := 2) (by decide +kernel) (by decide +kernel) rfl (Or.inl (Nat.le_of_ble_eq_true rfl)) (by show _ ≤ mr_mxl 57; rw [show mr_mxl 57 = 7 from by decide +kernel]; exact Nat.le_of_ble_eq_true rfl) (by decide +kernel),
   fun v0 v1 v2 v4 v5 v6 x st h Q => gx_one (i := .iload_n 3) (len := 1) (by decide +kernel) rfl,
   fun v0 v1 v2 v3 v4 v5 v6 a0 a1 h Q => gx_stat (x := 25) (t := 17) (n := 2) (by decide +kernel) (by decide +kernel) (by decide) (by decide +kernel) rfl (Or.inl (Nat.le_of_ble_eq_true rfl)) (by show _ ≤ mr_mxl 17; rw [show mr_mxl 17 = 2 from by decide +kernel]; exact Nat.le_of_ble_eq_true rfl),
   fun v0 v1 v2 v3 v4 v5 v6 x st h Q => gx_br (i := .ifCond .ne 13) (len := 3) (c := .ne) (by decide +kernel) rfl rfl,
   fun v0 v1 v2 v3 v4 v6 x st h Q => gx_one (i := .iload 5) (len := 2) (by decide +kernel) rfl,
   fun v0 v1 v2 v3 v4 v5 x st h Q => gx_one (i := .iload 6) (len := 2) (by decide +kernel) rfl,
   fun v0 v1 v2 v3 v4 v5 v6 a0 r0 h Q => gx_stat (x := 15) (t := 16) (n := 1) (by decide +kernel) (by decide +kernel) (by decide) (by decide +kernel) rfl (Or.inl (Nat.le_of_ble_eq_true rfl)) (by show _ ≤ mr_mxl 16; rw [show mr_mxl 16 = 1 from by decide +kernel]; exact Nat.le_of_ble_eq_true rfl),
   fun v0 v1 v2 v3 v4 v5 v6 x y st h Q => gx_one (i := .ior) (len := 1) (by decide +kernel) rfl,
   fun v0 v1 v2 v3 v5 v6 w4 x st h Q => gx_one (i := .istore 5) (len := 2) (by decide +kernel) rfl,
   fun v0 v1 v2 v3 v4 x w5 st h Q => gx_one (i := .iinc 6 1) (len := 3) (by decide +kernel) rfl,
   fun v0 v1 v2 v3 v4 v5 v6 st h Q => gx_one (i := .goto (-57)) (len := 3) (by decide +kernel) rfl,
   fun v0 v1 v2 v3 v4 v6 x st h Q => gx_one (i := .iload 5) (len := 2) (by decide +kernel) rfl,
   fun v0 v1 v2 v3 v4 v5 v6 x h Q => gx_ret (i := .ireturn) (len := 1) (by decide +kernel) rfl rfl (by simp only [mr_rt, if_pos]; rw [if_pos (Or.inl (by decide +kernel))])⟩
theorem S_rl_loss_0 : (∀ (v1 v2 v3 : Value) (x : Nat) (st : List Value) (h : mr_h) (Q : Option Value → mr_h → Prop), mr_wp 84 0 [.ref x, v1, v2, v3] st h Q = mr_wp 84 1 [.ref x, v1, v2, v3] (.ref x :: st) h Q) ∧
    (∀ (v0 v2 v3 : Value) (x : Int32) (st : List Value) (h : mr_h) (Q : Option Value → mr_h → Prop), mr_wp 84 1 [v0, .int x, v2, v3] st h Q = mr_wp 84 2 [v0, .int x, v2, v3] (.int x :: st) h Q) ∧
    (∀ (v0 v1 v3 : Value) (x : Int32) (st : List Value) (h : mr_h) (Q : Option Value → mr_h → Prop), mr_wp 84 2 [v0, v1, .int x, v3] st h Q = mr_wp 84 3 [v0, v1, .int x, v3] (.int x :: st) h Q) ∧
    (∀ (v0 v1 v2 v3 : Value) (a0 : Int32) (a1 : Int32) (o : Nat) (h : mr_h) (Q : Option Value → mr_h → Prop), mr_wp 84 3 [v0, v1, v2, v3] [.int a1, .int a0, .ref o] h Q = mr_rc (h.1 o) 10 (mr_run 46 [.ref o, .int a0, .int a1] h (fun v h' => mr_wp 84 6 [v0, v1, v2, v3] (v.toList ++ []) h' Q))) ∧
    (∀ (v0 v1 v2 v3 : Value) (x : Int32) (st : List Value) (h : mr_h) (Q : Option Value → mr_h → Prop), mr_wp 84 6 [v0, v1, v2, v3] (.int x :: st) h Q = if x = 0 then mr_wp 84 16 [v0, v1, v2, v3] st h Q else mr_wp 84 9 [v0, v1, v2, v3] st h Q) ∧
    (∀ (v0 v1 v2 : Value) (x : Int32) (st : List Value) (h : mr_h) (Q : Option Value → mr_h → Prop), mr_wp 84 9 [v0, v1, v2, .int x] st h Q = mr_wp 84 10 [v0, v1, v2, .int x] (.int x :: st) h Q) ∧
    (∀ (v0 v1 v2 v3 : Value) (a0 : Int32) (h : mr_h) (Q : Option Value → mr_h → Prop), mr_wp 84 10 [v0, v1, v2, v3] [.int a0] h Q = mr_run 82 [.int a0] h (fun v h' => mr_wp 84 13 [v0, v1, v2, v3] (v.toList ++ []) h' Q)) ∧
    (∀ (v0 v1 v2 v3 : Value) (x : Int32) (st : List Value) (h : mr_h) (Q : Option Value → mr_h → Prop), mr_wp 84 13 [v0, v1, v2, v3] (.int x :: st) h Q = if ¬ x = 0 then mr_wp 84 18 [v0, v1, v2, v3] st h Q else mr_wp 84 16 [v0, v1, v2, v3] st h Q) ∧
    (∀ (v0 v1 v2 v3 : Value) (st : List Value) (h : mr_h) (Q : Option Value → mr_h → Prop), mr_wp 84 16 [v0, v1, v2, v3] st h Q = mr_wp 84 17 [v0, v1, v2, v3] (.int (-1) :: st) h Q) ∧
    (∀ (v0 v1 v2 v3 : Value) (x : Int32) (h : mr_h) (Q : Option Value → mr_h → Prop), mr_wp 84 17 [v0, v1, v2, v3] [.int x] h Q = Q (some (.int x)) h) ∧
    (∀ (v1 v2 v3 : Value) (x : Nat) (st : List Value) (h : mr_h) (Q : Option Value → mr_h → Prop), mr_wp 84 18 [.ref x, v1, v2, v3] st h Q = mr_wp 84 19 [.ref x, v1, v2, v3] (.ref x :: st) h Q) ∧
    (∀ (v0 v1 v2 v3 : Value) (a : Nat) (st : List Value) (h : mr_h) (Q : Option Value → mr_h → Prop), mr_wp 84 19 [v0, v1, v2, v3] (.ref a :: st) h Q = mr_gf (h.1 a) 10 0 (fun v => mr_wp 84 22 [v0, v1, v2, v3] (v :: st) h Q)) ∧
    (∀ (v0 v2 v3 : Value) (x : Int32) (st : List Value) (h : mr_h) (Q : Option Value → mr_h → Prop), mr_wp 84 22 [v0, .int x, v2, v3] st h Q = mr_wp 84 23 [v0, .int x, v2, v3] (.int x :: st) h Q) ∧
    (∀ (v0 v1 v3 : Value) (x : Int32) (st : List Value) (h : mr_h) (Q : Option Value → mr_h → Prop), mr_wp 84 23 [v0, v1, .int x, v3] st h Q = mr_wp 84 24 [v0, v1, .int x, v3] (.int x :: st) h Q) ∧
    (∀ (v0 v1 v2 v3 : Value) (a0 : Int32) (a1 : Int32) (o : Nat) (h : mr_h) (Q : Option Value → mr_h → Prop), mr_wp 84 24 [v0, v1, v2, v3] [.int a1, .int a0, .ref o] h Q = mr_rc (h.1 o) 3 (mr_run 38 [.ref o, .int a0, .int a1] h (fun v h' => mr_wp 84 27 [v0, v1, v2, v3] (v.toList ++ []) h' Q))) ∧
    (∀ (v0 v1 v2 v3 : Value) (x : Int32) (st : List Value) (h : mr_h) (Q : Option Value → mr_h → Prop), mr_wp 84 27 [v0, v1, v2, v3] (.int x :: st) h Q = if ¬ x = 0 then mr_wp 84 33 [v0, v1, v2, v3] st h Q else mr_wp 84 30 [v0, v1, v2, v3] st h Q) ∧
    (∀ (v0 v1 v2 v3 : Value) (st : List Value) (h : mr_h) (Q : Option Value → mr_h → Prop), mr_wp 84 30 [v0, v1, v2, v3] st h Q = mr_wp 84 32 [v0, v1, v2, v3] (.int (-2) :: st) h Q) ∧
    (∀ (v0 v1 v2 v3 : Value) (x : Int32) (h : mr_h) (Q : Option Value → mr_h → Prop), mr_wp 84 32 [v0, v1, v2, v3] [.int x] h Q = Q (some (.int x)) h) ∧
    (∀ (v0 v1 v2 : Value) (x : Int32) (st : List Value) (h : mr_h) (Q : Option Value → mr_h → Prop), mr_wp 84 33 [v0, v1, v2, .int x] st h Q = mr_wp 84 34 [v0, v1, v2, .int x] (.int x :: st) h Q) ∧
    (∀ (v0 v1 v2 v3 : Value) (x : Int32) (st : List Value) (h : mr_h) (Q : Option Value → mr_h → Prop), mr_wp 84 34 [v0, v1, v2, v3] (.int x :: st) h Q = if ¬ x = 0 then mr_wp 84 59 [v0, v1, v2, v3] st h Q else mr_wp 84 37 [v0, v1, v2, v3] st h Q) ∧
    (∀ (v1 v2 v3 : Value) (x : Nat) (st : List Value) (h : mr_h) (Q : Option Value → mr_h → Prop), mr_wp 84 37 [.ref x, v1, v2, v3] st h Q = mr_wp 84 38 [.ref x, v1, v2, v3] (.ref x :: st) h Q) ∧
    (∀ (v0 v1 v2 v3 : Value) (a : Nat) (st : List Value) (h : mr_h) (Q : Option Value → mr_h → Prop), mr_wp 84 38 [v0, v1, v2, v3] (.ref a :: st) h Q = mr_gf (h.1 a) 10 6 (fun v => mr_wp 84 41 [v0, v1, v2, v3] (v :: st) h Q)) ∧
    (∀ (v1 v2 v3 : Value) (x : Nat) (st : List Value) (h : mr_h) (Q : Option Value → mr_h → Prop), mr_wp 84 41 [.ref x, v1, v2, v3] st h Q = mr_wp 84 42 [.ref x, v1, v2, v3] (.ref x :: st) h Q) ∧
    (∀ (v0 v1 v2 v3 : Value) (a : Nat) (st : List Value) (h : mr_h) (Q : Option Value → mr_h → Prop), mr_wp 84 42 [v0, v1, v2, v3] (.ref a :: st) h Q = mr_gf (h.1 a) 10 0 (fun v => mr_wp 84 45 [v0, v1, v2, v3] (v :: st) h Q)) ∧
    (∀ (v0 v2 v3 : Value) (x : Int32) (st : List Value) (h : mr_h) (Q : Option Value → mr_h → Prop), mr_wp 84 45 [v0, .int x, v2, v3] st h Q = mr_wp 84 46 [v0, .int x, v2, v3] (.int x :: st) h Q) ∧
    (∀ (v0 v1 v3 : Value) (x : Int32) (st : List Value) (h : mr_h) (Q : Option Value → mr_h → Prop), mr_wp 84 46 [v0, v1, .int x, v3] st h Q = mr_wp 84 47 [v0, v1, .int x, v3] (.int x :: st) h Q) ∧
    (∀ (v0 v1 v2 v3 : Value) (a0 : Nat) (a1 : Int32) (a2 : Int32) (o : Nat) (h : mr_h) (Q : Option Value → mr_h → Prop), mr_wp 84 47 [v0, v1, v2, v3] [.int a2, .int a1, .ref a0, .ref o] h Q = mr_rc (h.1 o) 2 (mr_run 56 [.ref o, .ref a0, .int a1, .int a2] h (fun v h' => mr_wp 84 50 [v0, v1, v2, v3] (v.toList ++ []) h' Q))) ∧
    (∀ (v0 v1 v2 v3 : Value) (x : Int32) (st : List Value) (h : mr_h) (Q : Option Value → mr_h → Prop), mr_wp 84 50 [v0, v1, v2, v3] (.int x :: st) h Q = if x = 0 then mr_wp 84 57 [v0, v1, v2, v3] st h Q else mr_wp 84 53 [v0, v1, v2, v3] st h Q) ∧
    (∀ (v0 v1 v2 v3 : Value) (st : List Value) (h : mr_h) (Q : Option Value → mr_h → Prop), mr_wp 84 53 [v0, v1, v2, v3] st h Q = mr_wp 84 54 [v0, v1, v2, v3] (.int (1) :: st) h Q) ∧
    (∀ (v0 v1 v2 v3 : Value) (st : List Value) (h : mr_h) (Q : Option Value → mr_h → Prop), mr_wp 84 54 [v0, v1, v2, v3] st h Q = mr_wp 84 58 [v0, v1, v2, v3] st h Q) ∧
    (∀ (v0 v1 v2 v3 : Value) (st : List Value) (h : mr_h) (Q : Option Value → mr_h → Prop), mr_wp 84 57 [v0, v1, v2, v3] st h Q = mr_wp 84 58 [v0, v1, v2, v3] (.int (0) :: st) h Q) ∧
    (∀ (v0 v1 v2 v3 : Value) (x : Int32) (h : mr_h) (Q : Option Value → mr_h → Prop), mr_wp 84 58 [v0, v1, v2, v3] [.int x] h Q = Q (some (.int x)) h) ∧
    (∀ (v1 v2 v3 : Value) (x : Nat) (st : List Value) (h : mr_h) (Q : Option Value → mr_h → Prop), mr_wp 84 59 [.ref x, v1, v2, v3] st h Q = mr_wp 84 60 [.ref x, v1, v2, v3] (.ref x :: st) h Q) ∧
    (∀ (v0 v1 v2 v3 : Value) (a : Nat) (st : List Value) (h : mr_h) (Q : Option Value → mr_h → Prop), mr_wp 84 60 [v0, v1, v2, v3] (.ref a :: st) h Q = mr_gf (h.1 a) 10 3 (fun v => mr_wp 84 63 [v0, v1, v2, v3] (v :: st) h Q)) ∧
    (∀ (v0 v1 v2 v3 : Value) (o : Nat) (h : mr_h) (Q : Option Value → mr_h → Prop), mr_wp 84 63 [v0, v1, v2, v3] [.ref o] h Q = mr_rc (h.1 o) 6 (mr_run 53 [.ref o] h (fun v h' => mr_wp 84 66 [v0, v1, v2, v3] (v.toList ++ []) h' Q))) ∧
    (∀ (v1 v2 v3 : Value) (x : Nat) (st : List Value) (h : mr_h) (Q : Option Value → mr_h → Prop), mr_wp 84 66 [.ref x, v1, v2, v3] st h Q = mr_wp 84 67 [.ref x, v1, v2, v3] (.ref x :: st) h Q) ∧
    (∀ (v0 v1 v2 v3 : Value) (a : Nat) (st : List Value) (h : mr_h) (Q : Option Value → mr_h → Prop), mr_wp 84 67 [v0, v1, v2, v3] (.ref a :: st) h Q = mr_gf (h.1 a) 10 6 (fun v => mr_wp 84 70 [v0, v1, v2, v3] (v :: st) h Q)) ∧
    (∀ (v1 v2 v3 : Value) (x : Nat) (st : List Value) (h : mr_h) (Q : Option Value → mr_h → Prop), mr_wp 84 70 [.ref x, v1, v2, v3] st h Q = mr_wp 84 71 [.ref x, v1, v2, v3] (.ref x :: st) h Q) ∧
    (∀ (v0 v1 v2 v3 : Value) (a : Nat) (st : List Value) (h : mr_h) (Q : Option Value → mr_h → Prop), mr_wp 84 71 [v0, v1, v2, v3] (.ref a :: st) h Q = mr_gf (h.1 a) 10 0 (fun v => mr_wp 84 74 [v0, v1, v2, v3] (v :: st) h Q)) ∧
    (∀ (v0 v2 v3 : Value) (x : Int32) (st : List Value) (h : mr_h) (Q : Option Value → mr_h → Prop), mr_wp 84 74 [v0, .int x, v2, v3] st h Q = mr_wp 84 75 [v0, .int x, v2, v3] (.int x :: st) h Q) :=
  ⟨fun v1 v2 v3 x st h Q => gx_one (i := .aload_n 0) (len := 1) (by decide +kernel) rfl,
   fun v0 v2 v3 x st h Q => gx_one (i := .iload_n 1) (len := 1) (by decide +kernel) rfl,
   fun v0 v1 v3 x st h Q => gx_one (i := .iload_n 2) (len := 1) (by decide +kernel) rfl,
   fun v0 v1 v2 v3 a0 a1 o h Q => gx_virt (x := 134) (n := 2) (by decide +kernel) (by decide +kernel) rfl (Or.inl (Nat.le_of_ble_eq_true rfl)) (by show _ ≤ mr_mxl 46; rw [show mr_mxl 46 = 3 from by decide +kernel]; exact Nat.le_of_ble_eq_true rfl) (by decide +kernel),
   fun v0 v1 v2 v3 x st h Q => gx_br (i := .ifCond .eq 10) (len := 3) (c := .eq) (by decide +kernel) rfl rfl,
   fun v0 v1 v2 x st h Q => gx_one (i := .iload_n 3) (len := 1) (by decide +kernel) rfl,
   fun v0 v1 v2 v3 a0 h Q => gx_stat (x := 196) (t := 82) (n := 1) (by decide +kernel) (by decide +kernel) (by decide) (by decide +kernel) rfl (Or.inl (Nat.le_of_ble_eq_true rfl)) (by show _ ≤ mr_mxl 82; rw [show mr_mxl 82 = 1 from by decide +kernel]; exact Nat.le_of_ble_eq_true rfl),
   fun v0 v1 v2 v3 x st h Q => gx_br (i := .ifCond .ne 5) (len := 3) (c := .ne) (by decide +kernel) rfl rfl,
   fun v0 v1 v2 v3 st h Q => gx_one (i := .iconst (-1)) (len := 1) (by decide +kernel) rfl,
   fun v0 v1 v2 v3 x h Q => gx_ret (i := .ireturn) (len := 1) (by decide +kernel) rfl rfl (by simp only [mr_rt, if_pos]; rw [if_pos (Or.inl (by decide +kernel))]),
   fun v1 v2 v3 x st h Q => gx_one (i := .aload_n 0) (len := 1) (by decide +kernel) rfl,
   fun v0 v1 v2 v3 a st h Q => gx_get (x := 10) (by decide +kernel) (by decide +kernel),
   fun v0 v2 v3 x st h Q => gx_one (i := .iload_n 1) (len := 1) (by decide +kernel) rfl,
   fun v0 v1 v3 x st h Q => gx_one (i := .iload_n 2) (len := 1) (by decide +kernel) rfl,
   fun v0 v1 v2 v3 a0 a1 o h Q => gx_virt (x := 138) (n := 2) (by decide +kernel) (by decide +kernel) rfl (Or.inl (Nat.le_of_ble_eq_true rfl)) (by show _ ≤ mr_mxl 38; rw [show mr_mxl 38 = 3 from by decide +kernel]; exact Nat.le_of_ble_eq_true rfl) (by decide +kernel),
   fun v0 v1 v2 v3 x st h Q => gx_br (i := .ifCond .ne 6) (len := 3) (c := .ne) (by decide +kernel) rfl rfl,
   fun v0 v1 v2 v3 st h Q => gx_one (i := .bipush (-2)) (len := 2) (by decide +kernel) rfl,
   fun v0 v1 v2 v3 x h Q => gx_ret (i := .ireturn) (len := 1) (by decide +kernel) rfl rfl (by simp only [mr_rt, if_pos]; rw [if_pos (Or.inl (by decide +kernel))]),
   fun v0 v1 v2 x st h Q => gx_one (i := .iload_n 3) (len := 1) (by decide +kernel) rfl,
   fun v0 v1 v2 v3 x st h Q => gx_br (i := .ifCond .ne 25) (len := 3) (c := .ne) (by decide +kernel) rfl rfl,
   fun v1 v2 v3 x st h Q => gx_one (i := .aload_n 0) (len := 1) (by decide +kernel) rfl,
   fun v0 v1 v2 v3 a st h Q => gx_get (x := 50) (by decide +kernel) (by decide +kernel),
   fun v1 v2 v3 x st h Q => gx_one (i := .aload_n 0) (len := 1) (by decide +kernel) rfl,
   fun v0 v1 v2 v3 a st h Q => gx_get (x := 10) (by decide +kernel) (by decide +kernel),
   fun v0 v2 v3 x st h Q => gx_one (i := .iload_n 1) (len := 1) (by decide +kernel) rfl,
   fun v0 v1 v3 x st h Q => gx_one (i := .iload_n 2) (len := 1) (by decide +kernel) rfl,
   fun v0 v1 v2 v3 a0 a1 a2 o h Q => gx_virt (x := 202) (n := 3) (by decide +kernel) (by decide +kernel) rfl (Or.inl (Nat.le_of_ble_eq_true rfl)) (by show _ ≤ mr_mxl 56; rw [show mr_mxl 56 = 4 from by decide +kernel]; exact Nat.le_of_ble_eq_true rfl) (by decide +kernel),
   fun v0 v1 v2 v3 x st h Q => gx_br (i := .ifCond .eq 7) (len := 3) (c := .eq) (by decide +kernel) rfl rfl,
   fun v0 v1 v2 v3 st h Q => gx_one (i := .iconst 1) (len := 1) (by decide +kernel) rfl,
   fun v0 v1 v2 v3 st h Q => gx_one (i := .goto 4) (len := 3) (by decide +kernel) rfl,
   fun v0 v1 v2 v3 st h Q => gx_one (i := .iconst 0) (len := 1) (by decide +kernel) rfl,
   fun v0 v1 v2 v3 x h Q => gx_ret (i := .ireturn) (len := 1) (by decide +kernel) rfl rfl (by simp only [mr_rt, if_pos]; rw [if_pos (Or.inl (by decide +kernel))]),
   fun v1 v2 v3 x st h Q => gx_one (i := .aload_n 0) (len := 1) (by decide +kernel) rfl,
   fun v0 v1 v2 v3 a st h Q => gx_get (x := 29) (by decide +kernel) (by decide +kernel),
   fun v0 v1 v2 v3 o h Q => gx_virt (x := 151) (n := 0) (by decide +kernel) (by decide +kernel) rfl (Or.inl (Nat.le_of_ble_eq_true rfl)) (by show _ ≤ mr_mxl 53; rw [show mr_mxl 53 = 1 from by decide +kernel]; exact Nat.le_of_ble_eq_true rfl) (by decide +kernel),
   fun v1 v2 v3 x st h Q => gx_one (i := .aload_n 0) (len := 1) (by decide +kernel) rfl,
   fun v0 v1 v2 v3 a st h Q => gx_get (x := 50) (by decide +kernel) (by decide +kernel),
   fun v1 v2 v3 x st h Q => gx_one (i := .aload_n 0) (len := 1) (by decide +kernel) rfl,
   fun v0 v1 v2 v3 a st h Q => gx_get (x := 10) (by decide +kernel) (by decide +kernel),
   fun v0 v2 v3 x st h Q => gx_one (i := .iload_n 1) (len := 1) (by decide +kernel) rfl⟩
theorem S_rl_loss_1 : (∀ (v0 v1 v3 : Value) (x : Int32) (st : List Value) (h : mr_h) (Q : Option Value → mr_h → Prop), mr_wp 84 75 [v0, v1, .int x, v3] st h Q = mr_wp 84 76 [v0, v1, .int x, v3] (.int x :: st) h Q) ∧
    (∀ (v0 v1 v2 v3 : Value) (a0 : Nat) (a1 : Int32) (a2 : Int32) (o : Nat) (r0 : Value) (h : mr_h) (Q : Option Value → mr_h → Prop), mr_wp 84 76 [v0, v1, v2, v3] [.int a2, .int a1, .ref a0, .ref o, r0] h Q = mr_rc (h.1 o) 2 (mr_run 85 [.ref o, .ref a0, .int a1, .int a2] h (fun v h' => mr_wp 84 79 [v0, v1, v2, v3] (v.toList ++ [r0]) h' Q))) ∧
    (∀ (v0 v1 v2 v3 : Value) (x : Int32) (y : Int32) (st : List Value) (h : mr_h) (Q : Option Value → mr_h → Prop), mr_wp 84 79 [v0, v1, v2, v3] (.int y :: .int x :: st) h Q = mr_wp 84 80 [v0, v1, v2, v3] (.int (x - y) :: st) h Q) ∧
    (∀ (v0 v1 v2 v3 : Value) (x : Int32) (h : mr_h) (Q : Option Value → mr_h → Prop), mr_wp 84 80 [v0, v1, v2, v3] [.int x] h Q = Q (some (.int x)) h) :=
  ⟨fun v0 v1 v3 x st h Q => gx_one (i := .iload_n 2) (len := 1) (by decide +kernel) rfl,
   fun v0 v1 v2 v3 a0 a1 a2 o r0 h Q => gx_virt (x := 206) (n := 3) (by decide +kernel) (by decide +kernel) rfl (Or.inl (Nat.le_of_ble_eq_true rfl)) (by show _ ≤ mr_mxl 85; rw [show mr_mxl 85 = 4 from by decide +kernel]; exact Nat.le_of_ble_eq_true rfl) (by decide +kernel),
   fun v0 v1 v2 v3 x y st h Q => gx_one (i := .isub) (len := 1) (by decide +kernel) rfl,
   fun v0 v1 v2 v3 x h Q => gx_ret (i := .ireturn) (len := 1) (by decide +kernel) rfl rfl (by simp only [mr_rt, if_pos]; rw [if_pos (Or.inl (by decide +kernel))])⟩

theorem S_cg_pairsWithout : (∀ (v0 v2 v3 : Value) (x : Nat) (st : List Value) (h : mr_h) (Q : Option Value → mr_h → Prop), mr_wp 85 0 [v0, .ref x, v2, v3] st h Q = mr_wp 85 1 [v0, .ref x, v2, v3] (.ref x :: st) h Q) ∧
    (∀ (v0 v1 v2 v3 : Value) (a : Nat) (st : List Value) (h : mr_h) (Q : Option Value → mr_h → Prop), mr_wp 85 1 [v0, v1, v2, v3] (.ref a :: st) h Q = mr_gf (h.1 a) 3 1 (fun v => mr_wp 85 4 [v0, v1, v2, v3] (v :: st) h Q)) ∧
    (∀ (v0 v1 v2 v3 : Value) (st : List Value) (h : mr_h) (Q : Option Value → mr_h → Prop), mr_wp 85 4 [v0, v1, v2, v3] st h Q = mr_wp 85 5 [v0, v1, v2, v3] (.int (0) :: st) h Q) ∧
    (∀ (v1 v2 v3 : Value) (x : Nat) (st : List Value) (h : mr_h) (Q : Option Value → mr_h → Prop), mr_wp 85 5 [.ref x, v1, v2, v3] st h Q = mr_wp 85 6 [.ref x, v1, v2, v3] (.ref x :: st) h Q) ∧
    (∀ (v0 v1 v2 v3 : Value) (a : Nat) (st : List Value) (h : mr_h) (Q : Option Value → mr_h → Prop), mr_wp 85 6 [v0, v1, v2, v3] (.ref a :: st) h Q = mr_gf (h.1 a) 2 0 (fun v => mr_wp 85 9 [v0, v1, v2, v3] (v :: st) h Q)) ∧
    (∀ (v0 v1 v2 v3 : Value) (st : List Value) (h : mr_h) (Q : Option Value → mr_h → Prop), mr_wp 85 9 [v0, v1, v2, v3] st h Q = mr_wp 85 10 [v0, v1, v2, v3] (.int (0) :: st) h Q) ∧
    (∀ (v0 v2 v3 : Value) (x : Nat) (st : List Value) (h : mr_h) (Q : Option Value → mr_h → Prop), mr_wp 85 10 [v0, .ref x, v2, v3] st h Q = mr_wp 85 11 [v0, .ref x, v2, v3] (.ref x :: st) h Q) ∧
    (∀ (v0 v1 v2 v3 : Value) (a : Nat) (st : List Value) (h : mr_h) (Q : Option Value → mr_h → Prop), mr_wp 85 11 [v0, v1, v2, v3] (.ref a :: st) h Q = mr_gf (h.1 a) 3 0 (fun v => mr_wp 85 14 [v0, v1, v2, v3] (v :: st) h Q)) ∧
    (∀ (v0 v1 v2 v3 : Value) (x : Int32) (y : Int32) (a : Nat) (z : Int32) (b : Nat) (h : mr_h) (Q : Option Value → mr_h → Prop), mr_wp 85 14 [v0, v1, v2, v3] [.int x, .int y, .ref a, .int z, .ref b] h Q = mr_cpy (h.1 a) (h.1 b) a b z y x (fun c => mr_wp 85 17 [v0, v1, v2, v3] [] (mr_up h a c) Q)) ∧
    (∀ (v1 v2 v3 : Value) (x : Nat) (st : List Value) (h : mr_h) (Q : Option Value → mr_h → Prop), mr_wp 85 17 [.ref x, v1, v2, v3] st h Q = mr_wp 85 18 [.ref x, v1, v2, v3] (.ref x :: st) h Q) ∧
    (∀ (v0 v1 v2 v3 : Value) (a : Nat) (st : List Value) (h : mr_h) (Q : Option Value → mr_h → Prop), mr_wp 85 18 [v0, v1, v2, v3] (.ref a :: st) h Q = mr_gf (h.1 a) 2 0 (fun v => mr_wp 85 21 [v0, v1, v2, v3] (v :: st) h Q)) ∧
    (∀ (v0 v1 v3 : Value) (x : Int32) (st : List Value) (h : mr_h) (Q : Option Value → mr_h → Prop), mr_wp 85 21 [v0, v1, .int x, v3] st h Q = mr_wp 85 22 [v0, v1, .int x, v3] (.int x :: st) h Q) ∧
    (∀ (v0 v1 v2 v3 : Value) (x : Int32) (y : Nat) (st : List Value) (h : mr_h) (Q : Option Value → mr_h → Prop), mr_wp 85 22 [v0, v1, v2, v3] (.int x :: .ref y :: st) h Q = mr_wp 85 23 [v0, v1, v2, v3] (.int x :: .ref y :: .int x :: .ref y :: st) h Q) ∧
    (∀ (v0 v1 v2 v3 : Value) (a : Nat) (x : Int32) (st : List Value) (h : mr_h) (Q : Option Value → mr_h → Prop), mr_wp 85 23 [v0, v1, v2, v3] (.int x :: .ref a :: st) h Q = mr_ai (h.1 a) x (fun v => mr_wp 85 24 [v0, v1, v2, v3] (.int v :: st) h Q)) ∧
    (∀ (v0 v1 v2 : Value) (x : Int32) (st : List Value) (h : mr_h) (Q : Option Value → mr_h → Prop), mr_wp 85 24 [v0, v1, v2, .int x] st h Q = mr_wp 85 25 [v0, v1, v2, .int x] (.int x :: st) h Q) ∧
    (∀ (v0 v1 v2 v3 : Value) (a0 : Int32) (r0 : Value) (r1 : Value) (r2 : Value) (h : mr_h) (Q : Option Value → mr_h → Prop), mr_wp 85 25 [v0, v1, v2, v3] [.int a0, r0, r1, r2] h Q = mr_run 16 [.int a0] h (fun v h' => mr_wp 85 28 [v0, v1, v2, v3] (v.toList ++ [r0, r1, r2]) h' Q)) ∧
    (∀ (v0 v1 v2 v3 : Value) (st : List Value) (h : mr_h) (Q : Option Value → mr_h → Prop), mr_wp 85 28 [v0, v1, v2, v3] st h Q = mr_wp 85 29 [v0, v1, v2, v3] (.int (-1) :: st) h Q) ∧
    (∀ (v0 v1 v2 v3 : Value) (x : Int32) (y : Int32) (st : List Value) (h : mr_h) (Q : Option Value → mr_h → Prop), mr_wp 85 29 [v0, v1, v2, v3] (.int y :: .int x :: st) h Q = mr_wp 85 30 [v0, v1, v2, v3] (.int (x ^^^ y) :: st) h Q) ∧
    (∀ (v0 v1 v2 v3 : Value) (x : Int32) (y : Int32) (st : List Value) (h : mr_h) (Q : Option Value → mr_h → Prop), mr_wp 85 30 [v0, v1, v2, v3] (.int y :: .int x :: st) h Q = mr_wp 85 31 [v0, v1, v2, v3] (.int (x &&& y) :: st) h Q) ∧
    (∀ (v0 v1 v2 v3 : Value) (a : Nat) (x : Int32) (y : Int32) (st : List Value) (h : mr_h) (Q : Option Value → mr_h → Prop), mr_wp 85 31 [v0, v1, v2, v3] (.int y :: .int x :: .ref a :: st) h Q = mr_si (h.1 a) x y (fun c => mr_wp 85 32 [v0, v1, v2, v3] st (mr_up h a c) Q)) ∧
    (∀ (v1 v2 v3 : Value) (x : Nat) (st : List Value) (h : mr_h) (Q : Option Value → mr_h → Prop), mr_wp 85 32 [.ref x, v1, v2, v3] st h Q = mr_wp 85 33 [.ref x, v1, v2, v3] (.ref x :: st) h Q) ∧
    (∀ (v0 v1 v2 v3 : Value) (a : Nat) (st : List Value) (h : mr_h) (Q : Option Value → mr_h → Prop), mr_wp 85 33 [v0, v1, v2, v3] (.ref a :: st) h Q = mr_gf (h.1 a) 2 0 (fun v => mr_wp 85 36 [v0, v1, v2, v3] (v :: st) h Q)) ∧
    (∀ (v0 v2 v3 : Value) (x : Nat) (st : List Value) (h : mr_h) (Q : Option Value → mr_h → Prop), mr_wp 85 36 [v0, .ref x, v2, v3] st h Q = mr_wp 85 37 [v0, .ref x, v2, v3] (.ref x :: st) h Q) ∧
    (∀ (v0 v1 v2 v3 : Value) (a : Nat) (st : List Value) (h : mr_h) (Q : Option Value → mr_h → Prop), mr_wp 85 37 [v0, v1, v2, v3] (.ref a :: st) h Q = mr_gf (h.1 a) 3 0 (fun v => mr_wp 85 40 [v0, v1, v2, v3] (v :: st) h Q)) ∧
    (∀ (v0 v1 v2 v3 : Value) (a0 : Nat) (a1 : Int32) (h : mr_h) (Q : Option Value → mr_h → Prop), mr_wp 85 40 [v0, v1, v2, v3] [.int a1, .ref a0] h Q = mr_run 15 [.ref a0, .int a1] h (fun v h' => mr_wp 85 43 [v0, v1, v2, v3] (v.toList ++ []) h' Q)) ∧
    (∀ (v1 v2 v3 : Value) (x : Nat) (st : List Value) (h : mr_h) (Q : Option Value → mr_h → Prop), mr_wp 85 43 [.ref x, v1, v2, v3] st h Q = mr_wp 85 44 [.ref x, v1, v2, v3] (.ref x :: st) h Q) ∧
    (∀ (v0 v1 v2 v3 : Value) (a : Nat) (st : List Value) (h : mr_h) (Q : Option Value → mr_h → Prop), mr_wp 85 44 [v0, v1, v2, v3] (.ref a :: st) h Q = mr_gf (h.1 a) 2 0 (fun v => mr_wp 85 47 [v0, v1, v2, v3] (v :: st) h Q)) ∧
    (∀ (v0 v2 v3 : Value) (x : Nat) (st : List Value) (h : mr_h) (Q : Option Value → mr_h → Prop), mr_wp 85 47 [v0, .ref x, v2, v3] st h Q = mr_wp 85 48 [v0, .ref x, v2, v3] (.ref x :: st) h Q) ∧
    (∀ (v0 v1 v2 v3 : Value) (a : Nat) (st : List Value) (h : mr_h) (Q : Option Value → mr_h → Prop), mr_wp 85 48 [v0, v1, v2, v3] (.ref a :: st) h Q = mr_gf (h.1 a) 3 0 (fun v => mr_wp 85 51 [v0, v1, v2, v3] (v :: st) h Q)) ∧
    (∀ (v0 v1 v2 v3 : Value) (a0 : Nat) (a1 : Int32) (h : mr_h) (Q : Option Value → mr_h → Prop), mr_wp 85 51 [v0, v1, v2, v3] [.int a1, .ref a0] h Q = mr_run 54 [.ref a0, .int a1] h (fun v h' => mr_wp 85 54 [v0, v1, v2, v3] (v.toList ++ []) h' Q)) ∧
    (∀ (v0 v1 v2 v3 : Value) (x : Int32) (h : mr_h) (Q : Option Value → mr_h → Prop), mr_wp 85 54 [v0, v1, v2, v3] [.int x] h Q = Q (some (.int x)) h) :=
  ⟨fun v0 v2 v3 x st h Q => gx_one (i := .aload_n 1) (len := 1) (by decide +kernel) rfl,
   fun v0 v1 v2 v3 a st h Q => gx_get (x := 15) (by decide +kernel) (by decide +kernel),
   fun v0 v1 v2 v3 st h Q => gx_one (i := .iconst 0) (len := 1) (by decide +kernel) rfl,
   fun v1 v2 v3 x st h Q => gx_one (i := .aload_n 0) (len := 1) (by decide +kernel) rfl,
   fun v0 v1 v2 v3 a st h Q => gx_get (x := 9) (by decide +kernel) (by decide +kernel),
   fun v0 v1 v2 v3 st h Q => gx_one (i := .iconst 0) (len := 1) (by decide +kernel) rfl,
   fun v0 v2 v3 x st h Q => gx_one (i := .aload_n 1) (len := 1) (by decide +kernel) rfl,
   fun v0 v1 v2 v3 a st h Q => gx_get (x := 32) (by decide +kernel) (by decide +kernel),
   fun v0 v1 v2 v3 x y a z b h Q => gx_copy (x := 43) (by decide +kernel) (by decide +kernel) (by decide +kernel) (Nat.le_of_ble_eq_true rfl),
   fun v1 v2 v3 x st h Q => gx_one (i := .aload_n 0) (len := 1) (by decide +kernel) rfl,
   fun v0 v1 v2 v3 a st h Q => gx_get (x := 9) (by decide +kernel) (by decide +kernel),
   fun v0 v1 v3 x st h Q => gx_one (i := .iload_n 2) (len := 1) (by decide +kernel) rfl,
   fun v0 v1 v2 v3 x y st h Q => gx_one (i := .dup2) (len := 1) (by decide +kernel) rfl,
   fun v0 v1 v2 v3 a x st h Q => gx_iald (by decide +kernel),
   fun v0 v1 v2 x st h Q => gx_one (i := .iload_n 3) (len := 1) (by decide +kernel) rfl,
   fun v0 v1 v2 v3 a0 r0 r1 r2 h Q => gx_stat (x := 20) (t := 16) (n := 1) (by decide +kernel) (by decide +kernel) (by decide) (by decide +kernel) rfl (Or.inl (Nat.le_of_ble_eq_true rfl)) (by show _ ≤ mr_mxl 16; rw [show mr_mxl 16 = 1 from by decide +kernel]; exact Nat.le_of_ble_eq_true rfl),
   fun v0 v1 v2 v3 st h Q => gx_one (i := .iconst (-1)) (len := 1) (by decide +kernel) rfl,
   fun v0 v1 v2 v3 x y st h Q => gx_one (i := .ixor) (len := 1) (by decide +kernel) rfl,
   fun v0 v1 v2 v3 x y st h Q => gx_one (i := .iand) (len := 1) (by decide +kernel) rfl,
   fun v0 v1 v2 v3 a x y st h Q => gx_iast (by decide +kernel),
   fun v1 v2 v3 x st h Q => gx_one (i := .aload_n 0) (len := 1) (by decide +kernel) rfl,
   fun v0 v1 v2 v3 a st h Q => gx_get (x := 9) (by decide +kernel) (by decide +kernel),
   fun v0 v2 v3 x st h Q => gx_one (i := .aload_n 1) (len := 1) (by decide +kernel) rfl,
   fun v0 v1 v2 v3 a st h Q => gx_get (x := 32) (by decide +kernel) (by decide +kernel),
   fun v0 v1 v2 v3 a0 a1 h Q => gx_stat (x := 49) (t := 15) (n := 2) (by decide +kernel) (by decide +kernel) (by decide) (by decide +kernel) rfl (Or.inl (Nat.le_of_ble_eq_true rfl)) (by show _ ≤ mr_mxl 15; rw [show mr_mxl 15 = 4 from by decide +kernel]; exact Nat.le_of_ble_eq_true rfl),
   fun v1 v2 v3 x st h Q => gx_one (i := .aload_n 0) (len := 1) (by decide +kernel) rfl,
   fun v0 v1 v2 v3 a st h Q => gx_get (x := 9) (by decide +kernel) (by decide +kernel),
   fun v0 v2 v3 x st h Q => gx_one (i := .aload_n 1) (len := 1) (by decide +kernel) rfl,
   fun v0 v1 v2 v3 a st h Q => gx_get (x := 32) (by decide +kernel) (by decide +kernel),
   fun v0 v1 v2 v3 a0 a1 h Q => gx_stat (x := 53) (t := 54) (n := 2) (by decide +kernel) (by decide +kernel) (by decide) (by decide +kernel) rfl (Or.inl (Nat.le_of_ble_eq_true rfl)) (by show _ ≤ mr_mxl 54; rw [show mr_mxl 54 = 4 from by decide +kernel]; exact Nat.le_of_ble_eq_true rfl),
   fun v0 v1 v2 v3 x h Q => gx_ret (i := .ireturn) (len := 1) (by decide +kernel) rfl rfl (by simp only [mr_rt, if_pos]; rw [if_pos (Or.inl (by decide +kernel))])⟩
theorem S_rl_gain : (∀ (v1 v2 : Value) (x : Nat) (st : List Value) (h : mr_h) (Q : Option Value → mr_h → Prop), mr_wp 86 0 [.ref x, v1, v2] st h Q = mr_wp 86 1 [.ref x, v1, v2] (.ref x :: st) h Q) ∧
    (∀ (v0 v2 : Value) (x : Int32) (st : List Value) (h : mr_h) (Q : Option Value → mr_h → Prop), mr_wp 86 1 [v0, .int x, v2] st h Q = mr_wp 86 2 [v0, .int x, v2] (.int x :: st) h Q) ∧
    (∀ (v0 v1 : Value) (x : Int32) (st : List Value) (h : mr_h) (Q : Option Value → mr_h → Prop), mr_wp 86 2 [v0, v1, .int x] st h Q = mr_wp 86 3 [v0, v1, .int x] (.int x :: st) h Q) ∧
    (∀ (v0 v1 v2 : Value) (a0 : Int32) (a1 : Int32) (o : Nat) (h : mr_h) (Q : Option Value → mr_h → Prop), mr_wp 86 3 [v0, v1, v2] [.int a1, .int a0, .ref o] h Q = mr_rc (h.1 o) 10 (mr_run 46 [.ref o, .int a0, .int a1] h (fun v h' => mr_wp 86 6 [v0, v1, v2] (v.toList ++ []) h' Q))) ∧
    (∀ (v0 v1 v2 : Value) (x : Int32) (st : List Value) (h : mr_h) (Q : Option Value → mr_h → Prop), mr_wp 86 6 [v0, v1, v2] (.int x :: st) h Q = if ¬ x = 0 then mr_wp 86 11 [v0, v1, v2] st h Q else mr_wp 86 9 [v0, v1, v2] st h Q) ∧
    (∀ (v0 v1 v2 : Value) (st : List Value) (h : mr_h) (Q : Option Value → mr_h → Prop), mr_wp 86 9 [v0, v1, v2] st h Q = mr_wp 86 10 [v0, v1, v2] (.int (-1) :: st) h Q) ∧
    (∀ (v0 v1 v2 : Value) (x : Int32) (h : mr_h) (Q : Option Value → mr_h → Prop), mr_wp 86 10 [v0, v1, v2] [.int x] h Q = Q (some (.int x)) h) ∧
    (∀ (v1 v2 : Value) (x : Nat) (st : List Value) (h : mr_h) (Q : Option Value → mr_h → Prop), mr_wp 86 11 [.ref x, v1, v2] st h Q = mr_wp 86 12 [.ref x, v1, v2] (.ref x :: st) h Q) ∧
    (∀ (v0 v1 v2 : Value) (a : Nat) (st : List Value) (h : mr_h) (Q : Option Value → mr_h → Prop), mr_wp 86 12 [v0, v1, v2] (.ref a :: st) h Q = mr_gf (h.1 a) 10 0 (fun v => mr_wp 86 15 [v0, v1, v2] (v :: st) h Q)) ∧
    (∀ (v0 v2 : Value) (x : Int32) (st : List Value) (h : mr_h) (Q : Option Value → mr_h → Prop), mr_wp 86 15 [v0, .int x, v2] st h Q = mr_wp 86 16 [v0, .int x, v2] (.int x :: st) h Q) ∧
    (∀ (v0 v1 : Value) (x : Int32) (st : List Value) (h : mr_h) (Q : Option Value → mr_h → Prop), mr_wp 86 16 [v0, v1, .int x] st h Q = mr_wp 86 17 [v0, v1, .int x] (.int x :: st) h Q) ∧
    (∀ (v0 v1 v2 : Value) (a0 : Int32) (a1 : Int32) (o : Nat) (h : mr_h) (Q : Option Value → mr_h → Prop), mr_wp 86 17 [v0, v1, v2] [.int a1, .int a0, .ref o] h Q = mr_rc (h.1 o) 3 (mr_run 38 [.ref o, .int a0, .int a1] h (fun v h' => mr_wp 86 20 [v0, v1, v2] (v.toList ++ []) h' Q))) ∧
    (∀ (v0 v1 v2 : Value) (x : Int32) (st : List Value) (h : mr_h) (Q : Option Value → mr_h → Prop), mr_wp 86 20 [v0, v1, v2] (.int x :: st) h Q = if x = 0 then mr_wp 86 26 [v0, v1, v2] st h Q else mr_wp 86 23 [v0, v1, v2] st h Q) ∧
    (∀ (v0 v1 v2 : Value) (st : List Value) (h : mr_h) (Q : Option Value → mr_h → Prop), mr_wp 86 23 [v0, v1, v2] st h Q = mr_wp 86 25 [v0, v1, v2] (.int (-2) :: st) h Q) ∧
    (∀ (v0 v1 v2 : Value) (x : Int32) (h : mr_h) (Q : Option Value → mr_h → Prop), mr_wp 86 25 [v0, v1, v2] [.int x] h Q = Q (some (.int x)) h) ∧
    (∀ (v1 v2 : Value) (x : Nat) (st : List Value) (h : mr_h) (Q : Option Value → mr_h → Prop), mr_wp 86 26 [.ref x, v1, v2] st h Q = mr_wp 86 27 [.ref x, v1, v2] (.ref x :: st) h Q) ∧
    (∀ (v0 v1 v2 : Value) (a : Nat) (st : List Value) (h : mr_h) (Q : Option Value → mr_h → Prop), mr_wp 86 27 [v0, v1, v2] (.ref a :: st) h Q = mr_gf (h.1 a) 10 6 (fun v => mr_wp 86 30 [v0, v1, v2] (v :: st) h Q)) ∧
    (∀ (v1 v2 : Value) (x : Nat) (st : List Value) (h : mr_h) (Q : Option Value → mr_h → Prop), mr_wp 86 30 [.ref x, v1, v2] st h Q = mr_wp 86 31 [.ref x, v1, v2] (.ref x :: st) h Q) ∧
    (∀ (v0 v1 v2 : Value) (a : Nat) (st : List Value) (h : mr_h) (Q : Option Value → mr_h → Prop), mr_wp 86 31 [v0, v1, v2] (.ref a :: st) h Q = mr_gf (h.1 a) 10 3 (fun v => mr_wp 86 34 [v0, v1, v2] (v :: st) h Q)) ∧
    (∀ (v0 v2 : Value) (x : Int32) (st : List Value) (h : mr_h) (Q : Option Value → mr_h → Prop), mr_wp 86 34 [v0, .int x, v2] st h Q = mr_wp 86 35 [v0, .int x, v2] (.int x :: st) h Q) ∧
    (∀ (v0 v1 : Value) (x : Int32) (st : List Value) (h : mr_h) (Q : Option Value → mr_h → Prop), mr_wp 86 35 [v0, v1, .int x] st h Q = mr_wp 86 36 [v0, v1, .int x] (.int x :: st) h Q) ∧
    (∀ (v0 v1 v2 : Value) (a0 : Nat) (a1 : Int32) (a2 : Int32) (o : Nat) (h : mr_h) (Q : Option Value → mr_h → Prop), mr_wp 86 36 [v0, v1, v2] [.int a2, .int a1, .ref a0, .ref o] h Q = mr_rc (h.1 o) 2 (mr_run 87 [.ref o, .ref a0, .int a1, .int a2] h (fun v h' => mr_wp 86 39 [v0, v1, v2] (v.toList ++ []) h' Q))) ∧
    (∀ (v0 v1 v2 : Value) (x : Int32) (h : mr_h) (Q : Option Value → mr_h → Prop), mr_wp 86 39 [v0, v1, v2] [.int x] h Q = Q (some (.int x)) h) :=
  ⟨fun v1 v2 x st h Q => gx_one (i := .aload_n 0) (len := 1) (by decide +kernel) rfl,
   fun v0 v2 x st h Q => gx_one (i := .iload_n 1) (len := 1) (by decide +kernel) rfl,
   fun v0 v1 x st h Q => gx_one (i := .iload_n 2) (len := 1) (by decide +kernel) rfl,
   fun v0 v1 v2 a0 a1 o h Q => gx_virt (x := 134) (n := 2) (by decide +kernel) (by decide +kernel) rfl (Or.inl (Nat.le_of_ble_eq_true rfl)) (by show _ ≤ mr_mxl 46; rw [show mr_mxl 46 = 3 from by decide +kernel]; exact Nat.le_of_ble_eq_true rfl) (by decide +kernel),
   fun v0 v1 v2 x st h Q => gx_br (i := .ifCond .ne 5) (len := 3) (c := .ne) (by decide +kernel) rfl rfl,
   fun v0 v1 v2 st h Q => gx_one (i := .iconst (-1)) (len := 1) (by decide +kernel) rfl,
   fun v0 v1 v2 x h Q => gx_ret (i := .ireturn) (len := 1) (by decide +kernel) rfl rfl (by simp only [mr_rt, if_pos]; rw [if_pos (Or.inl (by decide +kernel))]),
   fun v1 v2 x st h Q => gx_one (i := .aload_n 0) (len := 1) (by decide +kernel) rfl,
   fun v0 v1 v2 a st h Q => gx_get (x := 10) (by decide +kernel) (by decide +kernel),
   fun v0 v2 x st h Q => gx_one (i := .iload_n 1) (len := 1) (by decide +kernel) rfl,
   fun v0 v1 x st h Q => gx_one (i := .iload_n 2) (len := 1) (by decide +kernel) rfl,
   fun v0 v1 v2 a0 a1 o h Q => gx_virt (x := 138) (n := 2) (by decide +kernel) (by decide +kernel) rfl (Or.inl (Nat.le_of_ble_eq_true rfl)) (by show _ ≤ mr_mxl 38; rw [show mr_mxl 38 = 3 from by decide +kernel]; exact Nat.le_of_ble_eq_true rfl) (by decide +kernel),
   fun v0 v1 v2 x st h Q => gx_br (i := .ifCond .eq 6) (len := 3) (c := .eq) (by decide +kernel) rfl rfl,
   fun v0 v1 v2 st h Q => gx_one (i := .bipush (-2)) (len := 2) (by decide +kernel) rfl,
   fun v0 v1 v2 x h Q => gx_ret (i := .ireturn) (len := 1) (by decide +kernel) rfl rfl (by simp only [mr_rt, if_pos]; rw [if_pos (Or.inl (by decide +kernel))]),
   fun v1 v2 x st h Q => gx_one (i := .aload_n 0) (len := 1) (by decide +kernel) rfl,
   fun v0 v1 v2 a st h Q => gx_get (x := 50) (by decide +kernel) (by decide +kernel),
   fun v1 v2 x st h Q => gx_one (i := .aload_n 0) (len := 1) (by decide +kernel) rfl,
   fun v0 v1 v2 a st h Q => gx_get (x := 29) (by decide +kernel) (by decide +kernel),
   fun v0 v2 x st h Q => gx_one (i := .iload_n 1) (len := 1) (by decide +kernel) rfl,
   fun v0 v1 x st h Q => gx_one (i := .iload_n 2) (len := 1) (by decide +kernel) rfl,
   fun v0 v1 v2 a0 a1 a2 o h Q => gx_virt (x := 209) (n := 3) (by decide +kernel) (by decide +kernel) rfl (Or.inl (Nat.le_of_ble_eq_true rfl)) (by show _ ≤ mr_mxl 87; rw [show mr_mxl 87 = 6 from by decide +kernel]; exact Nat.le_of_ble_eq_true rfl) (by decide +kernel),
   fun v0 v1 v2 x h Q => gx_ret (i := .ireturn) (len := 1) (by decide +kernel) rfl rfl (by simp only [mr_rt, if_pos]; rw [if_pos (Or.inl (by decide +kernel))])⟩
theorem s_cg_gainOf_6 (v0 v1 v2 v3 v4 : Value) (x : Int32) (st : List Value) (h : mr_h) (Q : Option Value → mr_h → Prop) : mr_wp 87 6 [v0, v1, v2, v3, v4, .int x] st h Q = mr_wp 87 8 [v0, v1, v2, v3, v4, .int x] (.int x :: st) h Q := gx_one (i := .iload 5) (len := 2) (by decide +kernel) rfl
theorem S_cg_gainOf : (∀ (v0 v1 v2 v3 v4 v5 : Value) (st : List Value) (h : mr_h) (Q : Option Value → mr_h → Prop), mr_wp 87 0 [v0, v1, v2, v3, v4, v5] st h Q = mr_wp 87 1 [v0, v1, v2, v3, v4, v5] (.int (0) :: st) h Q) ∧
    (∀ (v0 v1 v2 v4 v5 : Value) (w3 : Int32) (x : Int32) (st : List Value) (h : mr_h) (Q : Option Value → mr_h → Prop), mr_wp 87 1 [v0, v1, v2, .int w3, v4, v5] (.int x :: st) h Q = mr_wp 87 3 [v0, v1, v2, .int w3, .int x, v5] st h Q) ∧
    (∀ (v0 v1 v2 v3 v4 v5 : Value) (st : List Value) (h : mr_h) (Q : Option Value → mr_h → Prop), mr_wp 87 3 [v0, v1, v2, v3, v4, v5] st h Q = mr_wp 87 4 [v0, v1, v2, v3, v4, v5] (.int (0) :: st) h Q) ∧
    (∀ (v0 v1 v2 v3 v5 : Value) (w4 : Int32) (x : Int32) (st : List Value) (h : mr_h) (Q : Option Value → mr_h → Prop), mr_wp 87 4 [v0, v1, v2, v3, .int w4, v5] (.int x :: st) h Q = mr_wp 87 6 [v0, v1, v2, v3, .int w4, .int x] st h Q) ∧
    (∀ (v0 v1 v2 v3 v4 v5 : Value) (st : List Value) (h : mr_h) (Q : Option Value → mr_h → Prop), mr_wp 87 8 [v0, v1, v2, v3, v4, v5] st h Q = mr_wp 87 10 [v0, v1, v2, v3, v4, v5] (.int (12) :: st) h Q) ∧
    (∀ (v0 v1 v2 v3 v4 v5 : Value) (x : Int32) (y : Int32) (st : List Value) (h : mr_h) (Q : Option Value → mr_h → Prop), mr_wp 87 10 [v0, v1, v2, v3, v4, v5] (.int y :: .int x :: st) h Q = if y ≤ x then mr_wp 87 57 [v0, v1, v2, v3, v4, v5] st h Q else mr_wp 87 13 [v0, v1, v2, v3, v4, v5] st h Q) ∧
    (∀ (v0 v2 v3 v4 v5 : Value) (x : Nat) (st : List Value) (h : mr_h) (Q : Option Value → mr_h → Prop), mr_wp 87 13 [v0, .ref x, v2, v3, v4, v5] st h Q = mr_wp 87 14 [v0, .ref x, v2, v3, v4, v5] (.ref x :: st) h Q) ∧
    (∀ (v0 v1 v2 v3 v4 v5 : Value) (a : Nat) (st : List Value) (h : mr_h) (Q : Option Value → mr_h → Prop), mr_wp 87 14 [v0, v1, v2, v3, v4, v5] (.ref a :: st) h Q = mr_gf (h.1 a) 6 1 (fun v => mr_wp 87 17 [v0, v1, v2, v3, v4, v5] (v :: st) h Q)) ∧
    (∀ (v0 v1 v3 v4 v5 : Value) (x : Int32) (st : List Value) (h : mr_h) (Q : Option Value → mr_h → Prop), mr_wp 87 17 [v0, v1, .int x, v3, v4, v5] st h Q = mr_wp 87 18 [v0, v1, .int x, v3, v4, v5] (.int x :: st) h Q) ∧
    (∀ (v0 v1 v2 v3 v4 v5 : Value) (a : Nat) (x : Int32) (st : List Value) (h : mr_h) (Q : Option Value → mr_h → Prop), mr_wp 87 18 [v0, v1, v2, v3, v4, v5] (.int x :: .ref a :: st) h Q = mr_ai (h.1 a) x (fun v => mr_wp 87 19 [v0, v1, v2, v3, v4, v5] (.int v :: st) h Q)) ∧
    (∀ (v0 v1 v2 v3 v4 : Value) (x : Int32) (st : List Value) (h : mr_h) (Q : Option Value → mr_h → Prop), mr_wp 87 19 [v0, v1, v2, v3, v4, .int x] st h Q = mr_wp 87 21 [v0, v1, v2, v3, v4, .int x] (.int x :: st) h Q) ∧
    (∀ (v0 v1 v2 v3 v4 v5 : Value) (a0 : Int32) (a1 : Int32) (h : mr_h) (Q : Option Value → mr_h → Prop), mr_wp 87 21 [v0, v1, v2, v3, v4, v5] [.int a1, .int a0] h Q = mr_run 17 [.int a0, .int a1] h (fun v h' => mr_wp 87 24 [v0, v1, v2, v3, v4, v5] (v.toList ++ []) h' Q)) ∧
    (∀ (v0 v1 v2 v3 v4 v5 : Value) (x : Int32) (st : List Value) (h : mr_h) (Q : Option Value → mr_h → Prop), mr_wp 87 24 [v0, v1, v2, v3, v4, v5] (.int x :: st) h Q = if x = 0 then mr_wp 87 51 [v0, v1, v2, v3, v4, v5] st h Q else mr_wp 87 27 [v0, v1, v2, v3, v4, v5] st h Q) ∧
    (∀ (v0 v1 v2 v3 v5 : Value) (x : Int32) (st : List Value) (h : mr_h) (Q : Option Value → mr_h → Prop), mr_wp 87 27 [v0, v1, v2, v3, .int x, v5] st h Q = mr_wp 87 29 [v0, v1, v2, v3, .int x, v5] (.int x :: st) h Q) ∧
    (∀ (v0 v2 v3 v4 v5 : Value) (x : Nat) (st : List Value) (h : mr_h) (Q : Option Value → mr_h → Prop), mr_wp 87 29 [v0, .ref x, v2, v3, v4, v5] st h Q = mr_wp 87 30 [v0, .ref x, v2, v3, v4, v5] (.ref x :: st) h Q) ∧
    (∀ (v0 v1 v2 v3 v4 v5 : Value) (a : Nat) (st : List Value) (h : mr_h) (Q : Option Value → mr_h → Prop), mr_wp 87 30 [v0, v1, v2, v3, v4, v5] (.ref a :: st) h Q = mr_gf (h.1 a) 6 0 (fun v => mr_wp 87 33 [v0, v1, v2, v3, v4, v5] (v :: st) h Q)) ∧
    (∀ (v0 v1 v2 v4 v5 : Value) (x : Int32) (st : List Value) (h : mr_h) (Q : Option Value → mr_h → Prop), mr_wp 87 33 [v0, v1, v2, .int x, v4, v5] st h Q = mr_wp 87 34 [v0, v1, v2, .int x, v4, v5] (.int x :: st) h Q) ∧
    (∀ (v0 v1 v2 v3 v4 v5 : Value) (a : Nat) (x : Int32) (st : List Value) (h : mr_h) (Q : Option Value → mr_h → Prop), mr_wp 87 34 [v0, v1, v2, v3, v4, v5] (.int x :: .ref a :: st) h Q = mr_ai (h.1 a) x (fun v => mr_wp 87 35 [v0, v1, v2, v3, v4, v5] (.int v :: st) h Q)) ∧
    (∀ (v0 v2 v3 v4 v5 : Value) (x : Nat) (st : List Value) (h : mr_h) (Q : Option Value → mr_h → Prop), mr_wp 87 35 [v0, .ref x, v2, v3, v4, v5] st h Q = mr_wp 87 36 [v0, .ref x, v2, v3, v4, v5] (.ref x :: st) h Q) ∧
    (∀ (v0 v1 v2 v3 v4 v5 : Value) (a : Nat) (st : List Value) (h : mr_h) (Q : Option Value → mr_h → Prop), mr_wp 87 36 [v0, v1, v2, v3, v4, v5] (.ref a :: st) h Q = mr_gf (h.1 a) 6 0 (fun v => mr_wp 87 39 [v0, v1, v2, v3, v4, v5] (v :: st) h Q)) ∧
    (∀ (v0 v1 v2 v3 v4 : Value) (x : Int32) (st : List Value) (h : mr_h) (Q : Option Value → mr_h → Prop), mr_wp 87 39 [v0, v1, v2, v3, v4, .int x] st h Q = mr_wp 87 41 [v0, v1, v2, v3, v4, .int x] (.int x :: st) h Q) ∧
    (∀ (v0 v1 v2 v3 v4 v5 : Value) (a : Nat) (x : Int32) (st : List Value) (h : mr_h) (Q : Option Value → mr_h → Prop), mr_wp 87 41 [v0, v1, v2, v3, v4, v5] (.int x :: .ref a :: st) h Q = mr_ai (h.1 a) x (fun v => mr_wp 87 42 [v0, v1, v2, v3, v4, v5] (.int v :: st) h Q)) ∧
    (∀ (v0 v1 v2 v3 v4 v5 : Value) (st : List Value) (h : mr_h) (Q : Option Value → mr_h → Prop), mr_wp 87 42 [v0, v1, v2, v3, v4, v5] st h Q = mr_wp 87 43 [v0, v1, v2, v3, v4, v5] (.int (-1) :: st) h Q) ∧
    (∀ (v0 v1 v2 v3 v4 v5 : Value) (x : Int32) (y : Int32) (st : List Value) (h : mr_h) (Q : Option Value → mr_h → Prop), mr_wp 87 43 [v0, v1, v2, v3, v4, v5] (.int y :: .int x :: st) h Q = mr_wp 87 44 [v0, v1, v2, v3, v4, v5] (.int (x ^^^ y) :: st) h Q) ∧
    (∀ (v0 v1 v2 v3 v4 v5 : Value) (x : Int32) (y : Int32) (st : List Value) (h : mr_h) (Q : Option Value → mr_h → Prop), mr_wp 87 44 [v0, v1, v2, v3, v4, v5] (.int y :: .int x :: st) h Q = mr_wp 87 45 [v0, v1, v2, v3, v4, v5] (.int (x &&& y) :: st) h Q) ∧
    (∀ (v0 v1 v2 v3 v4 v5 : Value) (a0 : Int32) (r0 : Value) (h : mr_h) (Q : Option Value → mr_h → Prop), mr_wp 87 45 [v0, v1, v2, v3, v4, v5] [.int a0, r0] h Q = mr_run 50 [.int a0] h (fun v h' => mr_wp 87 48 [v0, v1, v2, v3, v4, v5] (v.toList ++ [r0]) h' Q)) ∧
    (∀ (v0 v1 v2 v3 v4 v5 : Value) (x : Int32) (y : Int32) (st : List Value) (h : mr_h) (Q : Option Value → mr_h → Prop), mr_wp 87 48 [v0, v1, v2, v3, v4, v5] (.int y :: .int x :: st) h Q = mr_wp 87 49 [v0, v1, v2, v3, v4, v5] (.int (x + y) :: st) h Q) ∧
    (∀ (v0 v1 v2 v4 v5 : Value) (w3 : Int32) (x : Int32) (st : List Value) (h : mr_h) (Q : Option Value → mr_h → Prop), mr_wp 87 49 [v0, v1, v2, .int w3, v4, v5] (.int x :: st) h Q = mr_wp 87 51 [v0, v1, v2, .int w3, .int x, v5] st h Q) ∧
    (∀ (v0 v1 v2 v3 : Value) (x : Int32) (w4 : Int32) (st : List Value) (h : mr_h) (Q : Option Value → mr_h → Prop), mr_wp 87 51 [v0, v1, v2, v3, .int w4, .int x] st h Q = mr_wp 87 54 [v0, v1, v2, v3, .int w4, .int (x + (1))] st h Q) ∧
    (∀ (v0 v1 v2 v3 v4 v5 : Value) (st : List Value) (h : mr_h) (Q : Option Value → mr_h → Prop), mr_wp 87 54 [v0, v1, v2, v3, v4, v5] st h Q = mr_wp 87 6 [v0, v1, v2, v3, v4, v5] st h Q) ∧
    (∀ (v0 v1 v2 v3 v5 : Value) (x : Int32) (st : List Value) (h : mr_h) (Q : Option Value → mr_h → Prop), mr_wp 87 57 [v0, v1, v2, v3, .int x, v5] st h Q = mr_wp 87 59 [v0, v1, v2, v3, .int x, v5] (.int x :: st) h Q) ∧
    (∀ (v0 v1 v2 v3 v4 v5 : Value) (x : Int32) (h : mr_h) (Q : Option Value → mr_h → Prop), mr_wp 87 59 [v0, v1, v2, v3, v4, v5] [.int x] h Q = Q (some (.int x)) h) :=
  ⟨fun v0 v1 v2 v3 v4 v5 st h Q => gx_one (i := .iconst 0) (len := 1) (by decide +kernel) rfl,
   fun v0 v1 v2 v4 v5 w3 x st h Q => gx_one (i := .istore 4) (len := 2) (by decide +kernel) rfl,
   fun v0 v1 v2 v3 v4 v5 st h Q => gx_one (i := .iconst 0) (len := 1) (by decide +kernel) rfl,
   fun v0 v1 v2 v3 v5 w4 x st h Q => gx_one (i := .istore 5) (len := 2) (by decide +kernel) rfl,
   fun v0 v1 v2 v3 v4 v5 st h Q => gx_one (i := .bipush 12) (len := 2) (by decide +kernel) rfl,
   fun v0 v1 v2 v3 v4 v5 x y st h Q => gx_br (i := .if_icmp .ge 47) (len := 3) (c := .ge) (by decide +kernel) rfl rfl,
   fun v0 v2 v3 v4 v5 x st h Q => gx_one (i := .aload_n 1) (len := 1) (by decide +kernel) rfl,
   fun v0 v1 v2 v3 v4 v5 a st h Q => gx_get (x := 57) (by decide +kernel) (by decide +kernel),
   fun v0 v1 v3 v4 v5 x st h Q => gx_one (i := .iload_n 2) (len := 1) (by decide +kernel) rfl,
   fun v0 v1 v2 v3 v4 v5 a x st h Q => gx_iald (by decide +kernel),
   fun v0 v1 v2 v3 v4 x st h Q => gx_one (i := .iload 5) (len := 2) (by decide +kernel) rfl,
   fun v0 v1 v2 v3 v4 v5 a0 a1 h Q => gx_stat (x := 28) (t := 17) (n := 2) (by decide +kernel) (by decide +kernel) (by decide) (by decide +kernel) rfl (Or.inl (Nat.le_of_ble_eq_true rfl)) (by show _ ≤ mr_mxl 17; rw [show mr_mxl 17 = 2 from by decide +kernel]; exact Nat.le_of_ble_eq_true rfl),
   fun v0 v1 v2 v3 v4 v5 x st h Q => gx_br (i := .ifCond .eq 27) (len := 3) (c := .eq) (by decide +kernel) rfl rfl,
   fun v0 v1 v2 v3 v5 x st h Q => gx_one (i := .iload 4) (len := 2) (by decide +kernel) rfl,
   fun v0 v2 v3 v4 v5 x st h Q => gx_one (i := .aload_n 1) (len := 1) (by decide +kernel) rfl,
   fun v0 v1 v2 v3 v4 v5 a st h Q => gx_get (x := 62) (by decide +kernel) (by decide +kernel),
   fun v0 v1 v2 v4 v5 x st h Q => gx_one (i := .iload_n 3) (len := 1) (by decide +kernel) rfl,
   fun v0 v1 v2 v3 v4 v5 a x st h Q => gx_iald (by decide +kernel),
   fun v0 v2 v3 v4 v5 x st h Q => gx_one (i := .aload_n 1) (len := 1) (by decide +kernel) rfl,
   fun v0 v1 v2 v3 v4 v5 a st h Q => gx_get (x := 62) (by decide +kernel) (by decide +kernel),
   fun v0 v1 v2 v3 v4 x st h Q => gx_one (i := .iload 5) (len := 2) (by decide +kernel) rfl,
   fun v0 v1 v2 v3 v4 v5 a x st h Q => gx_iald (by decide +kernel),
   fun v0 v1 v2 v3 v4 v5 st h Q => gx_one (i := .iconst (-1)) (len := 1) (by decide +kernel) rfl,
   fun v0 v1 v2 v3 v4 v5 x y st h Q => gx_one (i := .ixor) (len := 1) (by decide +kernel) rfl,
   fun v0 v1 v2 v3 v4 v5 x y st h Q => gx_one (i := .iand) (len := 1) (by decide +kernel) rfl,
   fun v0 v1 v2 v3 v4 v5 a0 r0 h Q => gx_stat (x := 65) (t := 50) (n := 1) (by decide +kernel) (by decide +kernel) (by decide) (by decide +kernel) rfl (Or.inl (Nat.le_of_ble_eq_true rfl)) (by show _ ≤ mr_mxl 50; rw [show mr_mxl 50 = 1 from by decide +kernel]; exact Nat.le_of_ble_eq_true rfl),
   fun v0 v1 v2 v3 v4 v5 x y st h Q => gx_one (i := .iadd) (len := 1) (by decide +kernel) rfl,
   fun v0 v1 v2 v4 v5 w3 x st h Q => gx_one (i := .istore 4) (len := 2) (by decide +kernel) rfl,
   fun v0 v1 v2 v3 x w4 st h Q => gx_one (i := .iinc 5 1) (len := 3) (by decide +kernel) rfl,
   fun v0 v1 v2 v3 v4 v5 st h Q => gx_one (i := .goto (-48)) (len := 3) (by decide +kernel) rfl,
   fun v0 v1 v2 v3 v5 x st h Q => gx_one (i := .iload 4) (len := 2) (by decide +kernel) rfl,
   fun v0 v1 v2 v3 v4 v5 x h Q => gx_ret (i := .ireturn) (len := 1) (by decide +kernel) rfl rfl (by simp only [mr_rt, if_pos]; rw [if_pos (Or.inl (by decide +kernel))])⟩
theorem S_rl_best : (∀ (v0 v2 : Value) (x : Int32) (st : List Value) (h : mr_h) (Q : Option Value → mr_h → Prop), mr_wp 88 0 [v0, .int x, v2] st h Q = mr_wp 88 1 [v0, .int x, v2] (.int x :: st) h Q) ∧
    (∀ (v0 v1 v2 : Value) (a0 : Int32) (h : mr_h) (Q : Option Value → mr_h → Prop), mr_wp 88 1 [v0, v1, v2] [.int a0] h Q = mr_run 82 [.int a0] h (fun v h' => mr_wp 88 4 [v0, v1, v2] (v.toList ++ []) h' Q)) ∧
    (∀ (v0 v1 v2 : Value) (x : Int32) (st : List Value) (h : mr_h) (Q : Option Value → mr_h → Prop), mr_wp 88 4 [v0, v1, v2] (.int x :: st) h Q = if ¬ x = 0 then mr_wp 88 9 [v0, v1, v2] st h Q else mr_wp 88 7 [v0, v1, v2] st h Q) ∧
    (∀ (v0 v1 v2 : Value) (st : List Value) (h : mr_h) (Q : Option Value → mr_h → Prop), mr_wp 88 7 [v0, v1, v2] st h Q = mr_wp 88 8 [v0, v1, v2] (.int (-1) :: st) h Q) ∧
    (∀ (v0 v1 v2 : Value) (x : Int32) (h : mr_h) (Q : Option Value → mr_h → Prop), mr_wp 88 8 [v0, v1, v2] [.int x] h Q = Q (some (.int x)) h) ∧
    (∀ (v1 v2 : Value) (x : Nat) (st : List Value) (h : mr_h) (Q : Option Value → mr_h → Prop), mr_wp 88 9 [.ref x, v1, v2] st h Q = mr_wp 88 10 [.ref x, v1, v2] (.ref x :: st) h Q) ∧
    (∀ (v0 v1 v2 : Value) (a : Nat) (st : List Value) (h : mr_h) (Q : Option Value → mr_h → Prop), mr_wp 88 10 [v0, v1, v2] (.ref a :: st) h Q = mr_gf (h.1 a) 10 6 (fun v => mr_wp 88 13 [v0, v1, v2] (v :: st) h Q)) ∧
    (∀ (v1 v2 : Value) (x : Nat) (st : List Value) (h : mr_h) (Q : Option Value → mr_h → Prop), mr_wp 88 13 [.ref x, v1, v2] st h Q = mr_wp 88 14 [.ref x, v1, v2] (.ref x :: st) h Q) ∧
    (∀ (v0 v1 v2 : Value) (a : Nat) (st : List Value) (h : mr_h) (Q : Option Value → mr_h → Prop), mr_wp 88 14 [v0, v1, v2] (.ref a :: st) h Q = mr_gf (h.1 a) 10 0 (fun v => mr_wp 88 17 [v0, v1, v2] (v :: st) h Q)) ∧
    (∀ (v1 v2 : Value) (x : Nat) (st : List Value) (h : mr_h) (Q : Option Value → mr_h → Prop), mr_wp 88 17 [.ref x, v1, v2] st h Q = mr_wp 88 18 [.ref x, v1, v2] (.ref x :: st) h Q) ∧
    (∀ (v0 v1 v2 : Value) (a : Nat) (st : List Value) (h : mr_h) (Q : Option Value → mr_h → Prop), mr_wp 88 18 [v0, v1, v2] (.ref a :: st) h Q = mr_gf (h.1 a) 10 3 (fun v => mr_wp 88 21 [v0, v1, v2] (v :: st) h Q)) ∧
    (∀ (v0 v1 v2 : Value) (a0 : Nat) (a1 : Nat) (o : Nat) (h : mr_h) (Q : Option Value → mr_h → Prop), mr_wp 88 21 [v0, v1, v2] [.ref a1, .ref a0, .ref o] h Q = mr_rc (h.1 o) 2 (mr_run 89 [.ref o, .ref a0, .ref a1] h (fun v h' => mr_wp 88 24 [v0, v1, v2] (v.toList ++ []) h' Q))) ∧
    (∀ (v0 v2 : Value) (w1 : Int32) (x : Int32) (st : List Value) (h : mr_h) (Q : Option Value → mr_h → Prop), mr_wp 88 24 [v0, .int w1, v2] (.int x :: st) h Q = mr_wp 88 25 [v0, .int w1, .int x] st h Q) ∧
    (∀ (v0 v1 : Value) (x : Int32) (st : List Value) (h : mr_h) (Q : Option Value → mr_h → Prop), mr_wp 88 25 [v0, v1, .int x] st h Q = mr_wp 88 26 [v0, v1, .int x] (.int x :: st) h Q) ∧
    (∀ (v0 v1 v2 : Value) (st : List Value) (h : mr_h) (Q : Option Value → mr_h → Prop), mr_wp 88 26 [v0, v1, v2] st h Q = mr_wp 88 28 [v0, v1, v2] (.int (-9) :: st) h Q) ∧
    (∀ (v0 v1 v2 : Value) (x : Int32) (y : Int32) (st : List Value) (h : mr_h) (Q : Option Value → mr_h → Prop), mr_wp 88 28 [v0, v1, v2] (.int y :: .int x :: st) h Q = if x = y then mr_wp 88 35 [v0, v1, v2] st h Q else mr_wp 88 31 [v0, v1, v2] st h Q) ∧
    (∀ (v0 v2 : Value) (x : Int32) (st : List Value) (h : mr_h) (Q : Option Value → mr_h → Prop), mr_wp 88 31 [v0, .int x, v2] st h Q = mr_wp 88 32 [v0, .int x, v2] (.int x :: st) h Q) ∧
    (∀ (v0 v1 v2 : Value) (x : Int32) (st : List Value) (h : mr_h) (Q : Option Value → mr_h → Prop), mr_wp 88 32 [v0, v1, v2] (.int x :: st) h Q = if ¬ x = 0 then mr_wp 88 37 [v0, v1, v2] st h Q else mr_wp 88 35 [v0, v1, v2] st h Q) ∧
    (∀ (v0 v1 : Value) (x : Int32) (st : List Value) (h : mr_h) (Q : Option Value → mr_h → Prop), mr_wp 88 35 [v0, v1, .int x] st h Q = mr_wp 88 36 [v0, v1, .int x] (.int x :: st) h Q) ∧
    (∀ (v0 v1 v2 : Value) (x : Int32) (h : mr_h) (Q : Option Value → mr_h → Prop), mr_wp 88 36 [v0, v1, v2] [.int x] h Q = Q (some (.int x)) h) ∧
    (∀ (v1 v2 : Value) (x : Nat) (st : List Value) (h : mr_h) (Q : Option Value → mr_h → Prop), mr_wp 88 37 [.ref x, v1, v2] st h Q = mr_wp 88 38 [.ref x, v1, v2] (.ref x :: st) h Q) ∧
    (∀ (v0 v1 v2 : Value) (a : Nat) (st : List Value) (h : mr_h) (Q : Option Value → mr_h → Prop), mr_wp 88 38 [v0, v1, v2] (.ref a :: st) h Q = mr_gf (h.1 a) 10 6 (fun v => mr_wp 88 41 [v0, v1, v2] (v :: st) h Q)) ∧
    (∀ (v1 v2 : Value) (x : Nat) (st : List Value) (h : mr_h) (Q : Option Value → mr_h → Prop), mr_wp 88 41 [.ref x, v1, v2] st h Q = mr_wp 88 42 [.ref x, v1, v2] (.ref x :: st) h Q) ∧
    (∀ (v0 v1 v2 : Value) (a : Nat) (st : List Value) (h : mr_h) (Q : Option Value → mr_h → Prop), mr_wp 88 42 [v0, v1, v2] (.ref a :: st) h Q = mr_gf (h.1 a) 10 3 (fun v => mr_wp 88 45 [v0, v1, v2] (v :: st) h Q)) ∧
    (∀ (v0 v1 : Value) (x : Int32) (st : List Value) (h : mr_h) (Q : Option Value → mr_h → Prop), mr_wp 88 45 [v0, v1, .int x] st h Q = mr_wp 88 46 [v0, v1, .int x] (.int x :: st) h Q) ∧
    (∀ (v0 v1 v2 : Value) (st : List Value) (h : mr_h) (Q : Option Value → mr_h → Prop), mr_wp 88 46 [v0, v1, v2] st h Q = mr_wp 88 48 [v0, v1, v2] (.int (16) :: st) h Q) ∧
    (∀ (v0 v1 v2 : Value) (x : Int32) (y : Int32) (st : List Value) (h : mr_h) (Q : Option Value → mr_h → Prop) (hv : ¬ y = 0), mr_wp 88 48 [v0, v1, v2] (.int y :: .int x :: st) h Q = mr_wp 88 49 [v0, v1, v2] (.int (x / y) :: st) h Q) ∧
    (∀ (v0 v1 : Value) (x : Int32) (st : List Value) (h : mr_h) (Q : Option Value → mr_h → Prop), mr_wp 88 49 [v0, v1, .int x] st h Q = mr_wp 88 50 [v0, v1, .int x] (.int x :: st) h Q) ∧
    (∀ (v0 v1 v2 : Value) (st : List Value) (h : mr_h) (Q : Option Value → mr_h → Prop), mr_wp 88 50 [v0, v1, v2] st h Q = mr_wp 88 52 [v0, v1, v2] (.int (16) :: st) h Q) ∧
    (∀ (v0 v1 v2 : Value) (x : Int32) (y : Int32) (st : List Value) (h : mr_h) (Q : Option Value → mr_h → Prop) (hv : ¬ y = 0), mr_wp 88 52 [v0, v1, v2] (.int y :: .int x :: st) h Q = mr_wp 88 53 [v0, v1, v2] (.int (x - x / y * y) :: st) h Q) ∧
    (∀ (v0 v1 v2 : Value) (a0 : Nat) (a1 : Int32) (a2 : Int32) (o : Nat) (h : mr_h) (Q : Option Value → mr_h → Prop), mr_wp 88 53 [v0, v1, v2] [.int a2, .int a1, .ref a0, .ref o] h Q = mr_rc (h.1 o) 2 (mr_run 87 [.ref o, .ref a0, .int a1, .int a2] h (fun v h' => mr_wp 88 56 [v0, v1, v2] (v.toList ++ []) h' Q))) ∧
    (∀ (v0 v1 v2 : Value) (x : Int32) (h : mr_h) (Q : Option Value → mr_h → Prop), mr_wp 88 56 [v0, v1, v2] [.int x] h Q = Q (some (.int x)) h) :=
  ⟨fun v0 v2 x st h Q => gx_one (i := .iload_n 1) (len := 1) (by decide +kernel) rfl,
   fun v0 v1 v2 a0 h Q => gx_stat (x := 196) (t := 82) (n := 1) (by decide +kernel) (by decide +kernel) (by decide) (by decide +kernel) rfl (Or.inl (Nat.le_of_ble_eq_true rfl)) (by show _ ≤ mr_mxl 82; rw [show mr_mxl 82 = 1 from by decide +kernel]; exact Nat.le_of_ble_eq_true rfl),
   fun v0 v1 v2 x st h Q => gx_br (i := .ifCond .ne 5) (len := 3) (c := .ne) (by decide +kernel) rfl rfl,
   fun v0 v1 v2 st h Q => gx_one (i := .iconst (-1)) (len := 1) (by decide +kernel) rfl,
   fun v0 v1 v2 x h Q => gx_ret (i := .ireturn) (len := 1) (by decide +kernel) rfl rfl (by simp only [mr_rt, if_pos]; rw [if_pos (Or.inl (by decide +kernel))]),
   fun v1 v2 x st h Q => gx_one (i := .aload_n 0) (len := 1) (by decide +kernel) rfl,
   fun v0 v1 v2 a st h Q => gx_get (x := 50) (by decide +kernel) (by decide +kernel),
   fun v1 v2 x st h Q => gx_one (i := .aload_n 0) (len := 1) (by decide +kernel) rfl,
   fun v0 v1 v2 a st h Q => gx_get (x := 10) (by decide +kernel) (by decide +kernel),
   fun v1 v2 x st h Q => gx_one (i := .aload_n 0) (len := 1) (by decide +kernel) rfl,
   fun v0 v1 v2 a st h Q => gx_get (x := 29) (by decide +kernel) (by decide +kernel),
   fun v0 v1 v2 a0 a1 o h Q => gx_virt (x := 213) (n := 2) (by decide +kernel) (by decide +kernel) rfl (Or.inl (Nat.le_of_ble_eq_true rfl)) (by show _ ≤ mr_mxl 89; rw [show mr_mxl 89 = 8 from by decide +kernel]; exact Nat.le_of_ble_eq_true rfl) (by decide +kernel),
   fun v0 v2 w1 x st h Q => gx_one (i := .istore_n 2) (len := 1) (by decide +kernel) rfl,
   fun v0 v1 x st h Q => gx_one (i := .iload_n 2) (len := 1) (by decide +kernel) rfl,
   fun v0 v1 v2 st h Q => gx_one (i := .bipush (-9)) (len := 2) (by decide +kernel) rfl,
   fun v0 v1 v2 x y st h Q => gx_br (i := .if_icmp .eq 7) (len := 3) (c := .eq) (by decide +kernel) rfl rfl,
   fun v0 v2 x st h Q => gx_one (i := .iload_n 1) (len := 1) (by decide +kernel) rfl,
   fun v0 v1 v2 x st h Q => gx_br (i := .ifCond .ne 5) (len := 3) (c := .ne) (by decide +kernel) rfl rfl,
   fun v0 v1 x st h Q => gx_one (i := .iload_n 2) (len := 1) (by decide +kernel) rfl,
   fun v0 v1 v2 x h Q => gx_ret (i := .ireturn) (len := 1) (by decide +kernel) rfl rfl (by simp only [mr_rt, if_pos]; rw [if_pos (Or.inl (by decide +kernel))]),
   fun v1 v2 x st h Q => gx_one (i := .aload_n 0) (len := 1) (by decide +kernel) rfl,
   fun v0 v1 v2 a st h Q => gx_get (x := 50) (by decide +kernel) (by decide +kernel),
   fun v1 v2 x st h Q => gx_one (i := .aload_n 0) (len := 1) (by decide +kernel) rfl,
   fun v0 v1 v2 a st h Q => gx_get (x := 29) (by decide +kernel) (by decide +kernel),
   fun v0 v1 x st h Q => gx_one (i := .iload_n 2) (len := 1) (by decide +kernel) rfl,
   fun v0 v1 v2 st h Q => gx_one (i := .bipush 16) (len := 2) (by decide +kernel) rfl,
   fun v0 v1 v2 x y st h Q hv => gx_one (i := .idiv) (len := 1) (by decide +kernel) (by simp only [mr_one]; rw [if_neg hv]; rfl),
   fun v0 v1 x st h Q => gx_one (i := .iload_n 2) (len := 1) (by decide +kernel) rfl,
   fun v0 v1 v2 st h Q => gx_one (i := .bipush 16) (len := 2) (by decide +kernel) rfl,
   fun v0 v1 v2 x y st h Q hv => gx_one (i := .irem) (len := 1) (by decide +kernel) (by simp only [mr_one]; rw [if_neg hv]; rfl),
   fun v0 v1 v2 a0 a1 a2 o h Q => gx_virt (x := 209) (n := 3) (by decide +kernel) (by decide +kernel) rfl (Or.inl (Nat.le_of_ble_eq_true rfl)) (by show _ ≤ mr_mxl 87; rw [show mr_mxl 87 = 6 from by decide +kernel]; exact Nat.le_of_ble_eq_true rfl) (by decide +kernel),
   fun v0 v1 v2 x h Q => gx_ret (i := .ireturn) (len := 1) (by decide +kernel) rfl rfl (by simp only [mr_rt, if_pos]; rw [if_pos (Or.inl (by decide +kernel))])⟩
theorem s_cg_bestToAdd_9 (v0 v1 v2 v3 v4 v6 v7 : Value) (x : Int32) (st : List Value) (h : mr_h) (Q : Option Value → mr_h → Prop) : mr_wp 89 9 [v0, v1, v2, v3, v4, .int x, v6, v7] st h Q = mr_wp 89 11 [v0, v1, v2, v3, v4, .int x, v6, v7] (.int x :: st) h Q := gx_one (i := .iload 5) (len := 2) (by decide +kernel) rfl
theorem s_cg_bestToAdd_21 (v0 v1 v2 v3 v4 v5 v7 : Value) (x : Int32) (st : List Value) (h : mr_h) (Q : Option Value → mr_h → Prop) : mr_wp 89 21 [v0, v1, v2, v3, v4, v5, .int x, v7] st h Q = mr_wp 89 23 [v0, v1, v2, v3, v4, v5, .int x, v7] (.int x :: st) h Q := gx_one (i := .iload 6) (len := 2) (by decide +kernel) rfl
theorem S_cg_bestToAdd_0 : (∀ (v0 v1 v2 v3 v4 v5 v6 v7 : Value) (st : List Value) (h : mr_h) (Q : Option Value → mr_h → Prop), mr_wp 89 0 [v0, v1, v2, v3, v4, v5, v6, v7] st h Q = mr_wp 89 2 [v0, v1, v2, v3, v4, v5, v6, v7] (.int (-9) :: st) h Q) ∧
    (∀ (v0 v1 v3 v4 v5 v6 v7 : Value) (w2 : Nat) (x : Int32) (st : List Value) (h : mr_h) (Q : Option Value → mr_h → Prop), mr_wp 89 2 [v0, v1, .ref w2, v3, v4, v5, v6, v7] (.int x :: st) h Q = mr_wp 89 3 [v0, v1, .ref w2, .int x, v4, v5, v6, v7] st h Q) ∧
    (∀ (v0 v1 v2 v3 v4 v5 v6 v7 : Value) (st : List Value) (h : mr_h) (Q : Option Value → mr_h → Prop), mr_wp 89 3 [v0, v1, v2, v3, v4, v5, v6, v7] st h Q = mr_wp 89 4 [v0, v1, v2, v3, v4, v5, v6, v7] (.int (-1) :: st) h Q) ∧
    (∀ (v0 v1 v2 v4 v5 v6 v7 : Value) (w3 : Int32) (x : Int32) (st : List Value) (h : mr_h) (Q : Option Value → mr_h → Prop), mr_wp 89 4 [v0, v1, v2, .int w3, v4, v5, v6, v7] (.int x :: st) h Q = mr_wp 89 6 [v0, v1, v2, .int w3, .int x, v5, v6, v7] st h Q) ∧
    (∀ (v0 v1 v2 v3 v4 v5 v6 v7 : Value) (st : List Value) (h : mr_h) (Q : Option Value → mr_h → Prop), mr_wp 89 6 [v0, v1, v2, v3, v4, v5, v6, v7] st h Q = mr_wp 89 7 [v0, v1, v2, v3, v4, v5, v6, v7] (.int (0) :: st) h Q) ∧
    (∀ (v0 v1 v2 v3 v5 v6 v7 : Value) (w4 : Int32) (x : Int32) (st : List Value) (h : mr_h) (Q : Option Value → mr_h → Prop), mr_wp 89 7 [v0, v1, v2, v3, .int w4, v5, v6, v7] (.int x :: st) h Q = mr_wp 89 9 [v0, v1, v2, v3, .int w4, .int x, v6, v7] st h Q) ∧
    (∀ (v0 v2 v3 v4 v5 v6 v7 : Value) (x : Nat) (st : List Value) (h : mr_h) (Q : Option Value → mr_h → Prop), mr_wp 89 11 [v0, .ref x, v2, v3, v4, v5, v6, v7] st h Q = mr_wp 89 12 [v0, .ref x, v2, v3, v4, v5, v6, v7] (.ref x :: st) h Q) ∧
    (∀ (v0 v1 v2 v3 v4 v5 v6 v7 : Value) (a : Nat) (st : List Value) (h : mr_h) (Q : Option Value → mr_h → Prop), mr_wp 89 12 [v0, v1, v2, v3, v4, v5, v6, v7] (.ref a :: st) h Q = mr_gf (h.1 a) 3 0 (fun v => mr_wp 89 15 [v0, v1, v2, v3, v4, v5, v6, v7] (v :: st) h Q)) ∧
    (∀ (v0 v1 v2 v3 v4 v5 v6 v7 : Value) (x : Int32) (y : Int32) (st : List Value) (h : mr_h) (Q : Option Value → mr_h → Prop), mr_wp 89 15 [v0, v1, v2, v3, v4, v5, v6, v7] (.int y :: .int x :: st) h Q = if y ≤ x then mr_wp 89 89 [v0, v1, v2, v3, v4, v5, v6, v7] st h Q else mr_wp 89 18 [v0, v1, v2, v3, v4, v5, v6, v7] st h Q) ∧
    (∀ (v0 v1 v2 v3 v4 v5 v6 v7 : Value) (st : List Value) (h : mr_h) (Q : Option Value → mr_h → Prop), mr_wp 89 18 [v0, v1, v2, v3, v4, v5, v6, v7] st h Q = mr_wp 89 19 [v0, v1, v2, v3, v4, v5, v6, v7] (.int (0) :: st) h Q) ∧
    (∀ (v0 v1 v2 v3 v4 v6 v7 : Value) (w5 : Int32) (x : Int32) (st : List Value) (h : mr_h) (Q : Option Value → mr_h → Prop), mr_wp 89 19 [v0, v1, v2, v3, v4, .int w5, v6, v7] (.int x :: st) h Q = mr_wp 89 21 [v0, v1, v2, v3, v4, .int w5, .int x, v7] st h Q) ∧
    (∀ (v0 v2 v3 v4 v5 v6 v7 : Value) (x : Nat) (st : List Value) (h : mr_h) (Q : Option Value → mr_h → Prop), mr_wp 89 23 [v0, .ref x, v2, v3, v4, v5, v6, v7] st h Q = mr_wp 89 24 [v0, .ref x, v2, v3, v4, v5, v6, v7] (.ref x :: st) h Q) ∧
    (∀ (v0 v1 v2 v3 v4 v5 v6 v7 : Value) (a : Nat) (st : List Value) (h : mr_h) (Q : Option Value → mr_h → Prop), mr_wp 89 24 [v0, v1, v2, v3, v4, v5, v6, v7] (.ref a :: st) h Q = mr_gf (h.1 a) 3 0 (fun v => mr_wp 89 27 [v0, v1, v2, v3, v4, v5, v6, v7] (v :: st) h Q)) ∧
    (∀ (v0 v1 v2 v3 v4 v5 v6 v7 : Value) (x : Int32) (y : Int32) (st : List Value) (h : mr_h) (Q : Option Value → mr_h → Prop), mr_wp 89 27 [v0, v1, v2, v3, v4, v5, v6, v7] (.int y :: .int x :: st) h Q = if y ≤ x then mr_wp 89 83 [v0, v1, v2, v3, v4, v5, v6, v7] st h Q else mr_wp 89 30 [v0, v1, v2, v3, v4, v5, v6, v7] st h Q) ∧
    (∀ (v0 v2 v3 v4 v5 v6 v7 : Value) (x : Nat) (st : List Value) (h : mr_h) (Q : Option Value → mr_h → Prop), mr_wp 89 30 [v0, .ref x, v2, v3, v4, v5, v6, v7] st h Q = mr_wp 89 31 [v0, .ref x, v2, v3, v4, v5, v6, v7] (.ref x :: st) h Q) ∧
    (∀ (v0 v1 v2 v3 v4 v6 v7 : Value) (x : Int32) (st : List Value) (h : mr_h) (Q : Option Value → mr_h → Prop), mr_wp 89 31 [v0, v1, v2, v3, v4, .int x, v6, v7] st h Q = mr_wp 89 33 [v0, v1, v2, v3, v4, .int x, v6, v7] (.int x :: st) h Q) ∧
    (∀ (v0 v1 v2 v3 v4 v5 v6 v7 : Value) (a0 : Int32) (o : Nat) (h : mr_h) (Q : Option Value → mr_h → Prop), mr_wp 89 33 [v0, v1, v2, v3, v4, v5, v6, v7] [.int a0, .ref o] h Q = mr_rc (h.1 o) 3 (mr_run 90 [.ref o, .int a0] h (fun v h' => mr_wp 89 36 [v0, v1, v2, v3, v4, v5, v6, v7] (v.toList ++ []) h' Q))) ∧
    (∀ (v0 v1 v2 v3 v4 v5 v7 : Value) (x : Int32) (st : List Value) (h : mr_h) (Q : Option Value → mr_h → Prop), mr_wp 89 36 [v0, v1, v2, v3, v4, v5, .int x, v7] st h Q = mr_wp 89 38 [v0, v1, v2, v3, v4, v5, .int x, v7] (.int x :: st) h Q) ∧
    (∀ (v0 v1 v2 v3 v4 v5 v6 v7 : Value) (a0 : Int32) (a1 : Int32) (h : mr_h) (Q : Option Value → mr_h → Prop), mr_wp 89 38 [v0, v1, v2, v3, v4, v5, v6, v7] [.int a1, .int a0] h Q = mr_run 17 [.int a0, .int a1] h (fun v h' => mr_wp 89 41 [v0, v1, v2, v3, v4, v5, v6, v7] (v.toList ++ []) h' Q)) ∧
    (∀ (v0 v1 v2 v3 v4 v5 v6 v7 : Value) (x : Int32) (st : List Value) (h : mr_h) (Q : Option Value → mr_h → Prop), mr_wp 89 41 [v0, v1, v2, v3, v4, v5, v6, v7] (.int x :: st) h Q = if ¬ x = 0 then mr_wp 89 47 [v0, v1, v2, v3, v4, v5, v6, v7] st h Q else mr_wp 89 44 [v0, v1, v2, v3, v4, v5, v6, v7] st h Q) ∧
    (∀ (v0 v1 v2 v3 v4 v5 v6 v7 : Value) (st : List Value) (h : mr_h) (Q : Option Value → mr_h → Prop), mr_wp 89 44 [v0, v1, v2, v3, v4, v5, v6, v7] st h Q = mr_wp 89 77 [v0, v1, v2, v3, v4, v5, v6, v7] st h Q) ∧
    (∀ (v1 v2 v3 v4 v5 v6 v7 : Value) (x : Nat) (st : List Value) (h : mr_h) (Q : Option Value → mr_h → Prop), mr_wp 89 47 [.ref x, v1, v2, v3, v4, v5, v6, v7] st h Q = mr_wp 89 48 [.ref x, v1, v2, v3, v4, v5, v6, v7] (.ref x :: st) h Q) ∧
    (∀ (v0 v1 v3 v4 v5 v6 v7 : Value) (x : Nat) (st : List Value) (h : mr_h) (Q : Option Value → mr_h → Prop), mr_wp 89 48 [v0, v1, .ref x, v3, v4, v5, v6, v7] st h Q = mr_wp 89 49 [v0, v1, .ref x, v3, v4, v5, v6, v7] (.ref x :: st) h Q) ∧
    (∀ (v0 v1 v2 v3 v4 v6 v7 : Value) (x : Int32) (st : List Value) (h : mr_h) (Q : Option Value → mr_h → Prop), mr_wp 89 49 [v0, v1, v2, v3, v4, .int x, v6, v7] st h Q = mr_wp 89 51 [v0, v1, v2, v3, v4, .int x, v6, v7] (.int x :: st) h Q) ∧
    (∀ (v0 v1 v2 v3 v4 v5 v7 : Value) (x : Int32) (st : List Value) (h : mr_h) (Q : Option Value → mr_h → Prop), mr_wp 89 51 [v0, v1, v2, v3, v4, v5, .int x, v7] st h Q = mr_wp 89 53 [v0, v1, v2, v3, v4, v5, .int x, v7] (.int x :: st) h Q) ∧
    (∀ (v0 v1 v2 v3 v4 v5 v6 v7 : Value) (a0 : Nat) (a1 : Int32) (a2 : Int32) (o : Nat) (h : mr_h) (Q : Option Value → mr_h → Prop), mr_wp 89 53 [v0, v1, v2, v3, v4, v5, v6, v7] [.int a2, .int a1, .ref a0, .ref o] h Q = mr_rc (h.1 o) 2 (mr_run 87 [.ref o, .ref a0, .int a1, .int a2] h (fun v h' => mr_wp 89 56 [v0, v1, v2, v3, v4, v5, v6, v7] (v.toList ++ []) h' Q))) ∧
    (∀ (v0 v1 v2 v3 v4 v5 v7 : Value) (w6 : Int32) (x : Int32) (st : List Value) (h : mr_h) (Q : Option Value → mr_h → Prop), mr_wp 89 56 [v0, v1, v2, v3, v4, v5, .int w6, v7] (.int x :: st) h Q = mr_wp 89 58 [v0, v1, v2, v3, v4, v5, .int w6, .int x] st h Q) ∧
    (∀ (v0 v1 v2 v3 v4 v5 v6 : Value) (x : Int32) (st : List Value) (h : mr_h) (Q : Option Value → mr_h → Prop), mr_wp 89 58 [v0, v1, v2, v3, v4, v5, v6, .int x] st h Q = mr_wp 89 60 [v0, v1, v2, v3, v4, v5, v6, .int x] (.int x :: st) h Q) ∧
    (∀ (v0 v1 v2 v3 v5 v6 v7 : Value) (x : Int32) (st : List Value) (h : mr_h) (Q : Option Value → mr_h → Prop), mr_wp 89 60 [v0, v1, v2, v3, .int x, v5, v6, v7] st h Q = mr_wp 89 62 [v0, v1, v2, v3, .int x, v5, v6, v7] (.int x :: st) h Q) ∧
    (∀ (v0 v1 v2 v3 v4 v5 v6 v7 : Value) (x : Int32) (y : Int32) (st : List Value) (h : mr_h) (Q : Option Value → mr_h → Prop), mr_wp 89 62 [v0, v1, v2, v3, v4, v5, v6, v7] (.int y :: .int x :: st) h Q = if x ≤ y then mr_wp 89 77 [v0, v1, v2, v3, v4, v5, v6, v7] st h Q else mr_wp 89 65 [v0, v1, v2, v3, v4, v5, v6, v7] st h Q) ∧
    (∀ (v0 v1 v2 v3 v4 v5 v6 : Value) (x : Int32) (st : List Value) (h : mr_h) (Q : Option Value → mr_h → Prop), mr_wp 89 65 [v0, v1, v2, v3, v4, v5, v6, .int x] st h Q = mr_wp 89 67 [v0, v1, v2, v3, v4, v5, v6, .int x] (.int x :: st) h Q) ∧
    (∀ (v0 v1 v2 v4 v5 v6 v7 : Value) (w3 : Int32) (x : Int32) (st : List Value) (h : mr_h) (Q : Option Value → mr_h → Prop), mr_wp 89 67 [v0, v1, v2, .int w3, v4, v5, v6, v7] (.int x :: st) h Q = mr_wp 89 69 [v0, v1, v2, .int w3, .int x, v5, v6, v7] st h Q) ∧
    (∀ (v0 v1 v2 v3 v4 v6 v7 : Value) (x : Int32) (st : List Value) (h : mr_h) (Q : Option Value → mr_h → Prop), mr_wp 89 69 [v0, v1, v2, v3, v4, .int x, v6, v7] st h Q = mr_wp 89 71 [v0, v1, v2, v3, v4, .int x, v6, v7] (.int x :: st) h Q) ∧
    (∀ (v0 v1 v2 v3 v4 v5 v7 : Value) (x : Int32) (st : List Value) (h : mr_h) (Q : Option Value → mr_h → Prop), mr_wp 89 71 [v0, v1, v2, v3, v4, v5, .int x, v7] st h Q = mr_wp 89 73 [v0, v1, v2, v3, v4, v5, .int x, v7] (.int x :: st) h Q) ∧
    (∀ (v0 v1 v2 v3 v4 v5 v6 v7 : Value) (a0 : Int32) (a1 : Int32) (h : mr_h) (Q : Option Value → mr_h → Prop), mr_wp 89 73 [v0, v1, v2, v3, v4, v5, v6, v7] [.int a1, .int a0] h Q = mr_run 92 [.int a0, .int a1] h (fun v h' => mr_wp 89 76 [v0, v1, v2, v3, v4, v5, v6, v7] (v.toList ++ []) h' Q)) ∧
    (∀ (v0 v1 v3 v4 v5 v6 v7 : Value) (w2 : Nat) (x : Int32) (st : List Value) (h : mr_h) (Q : Option Value → mr_h → Prop), mr_wp 89 76 [v0, v1, .ref w2, v3, v4, v5, v6, v7] (.int x :: st) h Q = mr_wp 89 77 [v0, v1, .ref w2, .int x, v4, v5, v6, v7] st h Q) ∧
    (∀ (v0 v1 v2 v3 v4 v7 : Value) (x : Int32) (w5 : Int32) (st : List Value) (h : mr_h) (Q : Option Value → mr_h → Prop), mr_wp 89 77 [v0, v1, v2, v3, v4, .int w5, .int x, v7] st h Q = mr_wp 89 80 [v0, v1, v2, v3, v4, .int w5, .int (x + (1)), v7] st h Q) ∧
    (∀ (v0 v1 v2 v3 v4 v5 v6 v7 : Value) (st : List Value) (h : mr_h) (Q : Option Value → mr_h → Prop), mr_wp 89 80 [v0, v1, v2, v3, v4, v5, v6, v7] st h Q = mr_wp 89 21 [v0, v1, v2, v3, v4, v5, v6, v7] st h Q) ∧
    (∀ (v0 v1 v2 v3 v6 v7 : Value) (x : Int32) (w4 : Int32) (st : List Value) (h : mr_h) (Q : Option Value → mr_h → Prop), mr_wp 89 83 [v0, v1, v2, v3, .int w4, .int x, v6, v7] st h Q = mr_wp 89 86 [v0, v1, v2, v3, .int w4, .int (x + (1)), v6, v7] st h Q) ∧
    (∀ (v0 v1 v2 v3 v4 v5 v6 v7 : Value) (st : List Value) (h : mr_h) (Q : Option Value → mr_h → Prop), mr_wp 89 86 [v0, v1, v2, v3, v4, v5, v6, v7] st h Q = mr_wp 89 9 [v0, v1, v2, v3, v4, v5, v6, v7] st h Q) :=
  ⟨fun v0 v1 v2 v3 v4 v5 v6 v7 st h Q => gx_one (i := .bipush (-9)) (len := 2) (by decide +kernel) rfl,
   fun v0 v1 v3 v4 v5 v6 v7 w2 x st h Q => gx_one (i := .istore_n 3) (len := 1) (by decide +kernel) rfl,
   fun v0 v1 v2 v3 v4 v5 v6 v7 st h Q => gx_one (i := .iconst (-1)) (len := 1) (by decide +kernel) rfl,
   fun v0 v1 v2 v4 v5 v6 v7 w3 x st h Q => gx_one (i := .istore 4) (len := 2) (by decide +kernel) rfl,
   fun v0 v1 v2 v3 v4 v5 v6 v7 st h Q => gx_one (i := .iconst 0) (len := 1) (by decide +kernel) rfl,
   fun v0 v1 v2 v3 v5 v6 v7 w4 x st h Q => gx_one (i := .istore 5) (len := 2) (by decide +kernel) rfl,
   fun v0 v2 v3 v4 v5 v6 v7 x st h Q => gx_one (i := .aload_n 1) (len := 1) (by decide +kernel) rfl,
   fun v0 v1 v2 v3 v4 v5 v6 v7 a st h Q => gx_get (x := 32) (by decide +kernel) (by decide +kernel),
   fun v0 v1 v2 v3 v4 v5 v6 v7 x y st h Q => gx_br (i := .if_icmp .ge 74) (len := 3) (c := .ge) (by decide +kernel) rfl rfl,
   fun v0 v1 v2 v3 v4 v5 v6 v7 st h Q => gx_one (i := .iconst 0) (len := 1) (by decide +kernel) rfl,
   fun v0 v1 v2 v3 v4 v6 v7 w5 x st h Q => gx_one (i := .istore 6) (len := 2) (by decide +kernel) rfl,
   fun v0 v2 v3 v4 v5 v6 v7 x st h Q => gx_one (i := .aload_n 1) (len := 1) (by decide +kernel) rfl,
   fun v0 v1 v2 v3 v4 v5 v6 v7 a st h Q => gx_get (x := 32) (by decide +kernel) (by decide +kernel),
   fun v0 v1 v2 v3 v4 v5 v6 v7 x y st h Q => gx_br (i := .if_icmp .ge 56) (len := 3) (c := .ge) (by decide +kernel) rfl rfl,
   fun v0 v2 v3 v4 v5 v6 v7 x st h Q => gx_one (i := .aload_n 1) (len := 1) (by decide +kernel) rfl,
   fun v0 v1 v2 v3 v4 v6 v7 x st h Q => gx_one (i := .iload 5) (len := 2) (by decide +kernel) rfl,
   fun v0 v1 v2 v3 v4 v5 v6 v7 a0 o h Q => gx_virt (x := 70) (n := 1) (by decide +kernel) (by decide +kernel) rfl (Or.inl (Nat.le_of_ble_eq_true rfl)) (by show _ ≤ mr_mxl 90; rw [show mr_mxl 90 = 2 from by decide +kernel]; exact Nat.le_of_ble_eq_true rfl) (by decide +kernel),
   fun v0 v1 v2 v3 v4 v5 v7 x st h Q => gx_one (i := .iload 6) (len := 2) (by decide +kernel) rfl,
   fun v0 v1 v2 v3 v4 v5 v6 v7 a0 a1 h Q => gx_stat (x := 28) (t := 17) (n := 2) (by decide +kernel) (by decide +kernel) (by decide) (by decide +kernel) rfl (Or.inl (Nat.le_of_ble_eq_true rfl)) (by show _ ≤ mr_mxl 17; rw [show mr_mxl 17 = 2 from by decide +kernel]; exact Nat.le_of_ble_eq_true rfl),
   fun v0 v1 v2 v3 v4 v5 v6 v7 x st h Q => gx_br (i := .ifCond .ne 6) (len := 3) (c := .ne) (by decide +kernel) rfl rfl,
   fun v0 v1 v2 v3 v4 v5 v6 v7 st h Q => gx_one (i := .goto 33) (len := 3) (by decide +kernel) rfl,
   fun v1 v2 v3 v4 v5 v6 v7 x st h Q => gx_one (i := .aload_n 0) (len := 1) (by decide +kernel) rfl,
   fun v0 v1 v3 v4 v5 v6 v7 x st h Q => gx_one (i := .aload_n 2) (len := 1) (by decide +kernel) rfl,
   fun v0 v1 v2 v3 v4 v6 v7 x st h Q => gx_one (i := .iload 5) (len := 2) (by decide +kernel) rfl,
   fun v0 v1 v2 v3 v4 v5 v7 x st h Q => gx_one (i := .iload 6) (len := 2) (by decide +kernel) rfl,
   fun v0 v1 v2 v3 v4 v5 v6 v7 a0 a1 a2 o h Q => gx_virt (x := 73) (n := 3) (by decide +kernel) (by decide +kernel) rfl (Or.inl (Nat.le_of_ble_eq_true rfl)) (by show _ ≤ mr_mxl 87; rw [show mr_mxl 87 = 6 from by decide +kernel]; exact Nat.le_of_ble_eq_true rfl) (by decide +kernel),
   fun v0 v1 v2 v3 v4 v5 v7 w6 x st h Q => gx_one (i := .istore 7) (len := 2) (by decide +kernel) rfl,
   fun v0 v1 v2 v3 v4 v5 v6 x st h Q => gx_one (i := .iload 7) (len := 2) (by decide +kernel) rfl,
   fun v0 v1 v2 v3 v5 v6 v7 x st h Q => gx_one (i := .iload 4) (len := 2) (by decide +kernel) rfl,
   fun v0 v1 v2 v3 v4 v5 v6 v7 x y st h Q => gx_br (i := .if_icmp .le 15) (len := 3) (c := .le) (by decide +kernel) rfl rfl,
   fun v0 v1 v2 v3 v4 v5 v6 x st h Q => gx_one (i := .iload 7) (len := 2) (by decide +kernel) rfl,
   fun v0 v1 v2 v4 v5 v6 v7 w3 x st h Q => gx_one (i := .istore 4) (len := 2) (by decide +kernel) rfl,
   fun v0 v1 v2 v3 v4 v6 v7 x st h Q => gx_one (i := .iload 5) (len := 2) (by decide +kernel) rfl,
   fun v0 v1 v2 v3 v4 v5 v7 x st h Q => gx_one (i := .iload 6) (len := 2) (by decide +kernel) rfl,
   fun v0 v1 v2 v3 v4 v5 v6 v7 a0 a1 h Q => gx_stat (x := 77) (t := 92) (n := 2) (by decide +kernel) (by decide +kernel) (by decide) (by decide +kernel) rfl (Or.inl (Nat.le_of_ble_eq_true rfl)) (by show _ ≤ mr_mxl 92; rw [show mr_mxl 92 = 2 from by decide +kernel]; exact Nat.le_of_ble_eq_true rfl),
   fun v0 v1 v3 v4 v5 v6 v7 w2 x st h Q => gx_one (i := .istore_n 3) (len := 1) (by decide +kernel) rfl,
   fun v0 v1 v2 v3 v4 v7 x w5 st h Q => gx_one (i := .iinc 6 1) (len := 3) (by decide +kernel) rfl,
   fun v0 v1 v2 v3 v4 v5 v6 v7 st h Q => gx_one (i := .goto (-59)) (len := 3) (by decide +kernel) rfl,
   fun v0 v1 v2 v3 v6 v7 x w4 st h Q => gx_one (i := .iinc 5 1) (len := 3) (by decide +kernel) rfl,
   fun v0 v1 v2 v3 v4 v5 v6 v7 st h Q => gx_one (i := .goto (-77)) (len := 3) (by decide +kernel) rfl⟩
theorem S_cg_bestToAdd_1 : (∀ (v0 v1 v2 v4 v5 v6 v7 : Value) (x : Int32) (st : List Value) (h : mr_h) (Q : Option Value → mr_h → Prop), mr_wp 89 89 [v0, v1, v2, .int x, v4, v5, v6, v7] st h Q = mr_wp 89 90 [v0, v1, v2, .int x, v4, v5, v6, v7] (.int x :: st) h Q) ∧
    (∀ (v0 v1 v2 v3 v4 v5 v6 v7 : Value) (x : Int32) (h : mr_h) (Q : Option Value → mr_h → Prop), mr_wp 89 90 [v0, v1, v2, v3, v4, v5, v6, v7] [.int x] h Q = Q (some (.int x)) h) :=
  ⟨fun v0 v1 v2 v4 v5 v6 v7 x st h Q => gx_one (i := .iload_n 3) (len := 1) (by decide +kernel) rfl,
   fun v0 v1 v2 v3 v4 v5 v6 v7 x h Q => gx_ret (i := .ireturn) (len := 1) (by decide +kernel) rfl rfl (by simp only [mr_rt, if_pos]; rw [if_pos (Or.inl (by decide +kernel))])⟩

theorem S_ne_missingFrom : (∀ (v1 : Value) (x : Nat) (st : List Value) (h : mr_h) (Q : Option Value → mr_h → Prop), mr_wp 90 0 [.ref x, v1] st h Q = mr_wp 90 1 [.ref x, v1] (.ref x :: st) h Q) ∧
    (∀ (v0 v1 : Value) (o : Nat) (h : mr_h) (Q : Option Value → mr_h → Prop), mr_wp 90 1 [v0, v1] [.ref o] h Q = mr_rc (h.1 o) 3 (mr_run 91 [.ref o] h (fun v h' => mr_wp 90 4 [v0, v1] (v.toList ++ []) h' Q))) ∧
    (∀ (v1 : Value) (x : Nat) (st : List Value) (h : mr_h) (Q : Option Value → mr_h → Prop), mr_wp 90 4 [.ref x, v1] st h Q = mr_wp 90 5 [.ref x, v1] (.ref x :: st) h Q) ∧
    (∀ (v0 v1 : Value) (a : Nat) (st : List Value) (h : mr_h) (Q : Option Value → mr_h → Prop), mr_wp 90 5 [v0, v1] (.ref a :: st) h Q = mr_gf (h.1 a) 3 1 (fun v => mr_wp 90 8 [v0, v1] (v :: st) h Q)) ∧
    (∀ (v0 : Value) (x : Int32) (st : List Value) (h : mr_h) (Q : Option Value → mr_h → Prop), mr_wp 90 8 [v0, .int x] st h Q = mr_wp 90 9 [v0, .int x] (.int x :: st) h Q) ∧
    (∀ (v0 v1 : Value) (a : Nat) (x : Int32) (st : List Value) (h : mr_h) (Q : Option Value → mr_h → Prop), mr_wp 90 9 [v0, v1] (.int x :: .ref a :: st) h Q = mr_ai (h.1 a) x (fun v => mr_wp 90 10 [v0, v1] (.int v :: st) h Q)) ∧
    (∀ (v0 v1 : Value) (st : List Value) (h : mr_h) (Q : Option Value → mr_h → Prop), mr_wp 90 10 [v0, v1] st h Q = mr_wp 90 11 [v0, v1] (.int (-1) :: st) h Q) ∧
    (∀ (v0 v1 : Value) (x : Int32) (y : Int32) (st : List Value) (h : mr_h) (Q : Option Value → mr_h → Prop), mr_wp 90 11 [v0, v1] (.int y :: .int x :: st) h Q = mr_wp 90 12 [v0, v1] (.int (x ^^^ y) :: st) h Q) ∧
    (∀ (v0 v1 : Value) (x : Int32) (y : Int32) (st : List Value) (h : mr_h) (Q : Option Value → mr_h → Prop), mr_wp 90 12 [v0, v1] (.int y :: .int x :: st) h Q = mr_wp 90 13 [v0, v1] (.int (x &&& y) :: st) h Q) ∧
    (∀ (v0 : Value) (x : Int32) (st : List Value) (h : mr_h) (Q : Option Value → mr_h → Prop), mr_wp 90 13 [v0, .int x] st h Q = mr_wp 90 14 [v0, .int x] (.int x :: st) h Q) ∧
    (∀ (v0 v1 : Value) (a0 : Int32) (r0 : Value) (h : mr_h) (Q : Option Value → mr_h → Prop), mr_wp 90 14 [v0, v1] [.int a0, r0] h Q = mr_run 16 [.int a0] h (fun v h' => mr_wp 90 17 [v0, v1] (v.toList ++ [r0]) h' Q)) ∧
    (∀ (v0 v1 : Value) (st : List Value) (h : mr_h) (Q : Option Value → mr_h → Prop), mr_wp 90 17 [v0, v1] st h Q = mr_wp 90 18 [v0, v1] (.int (-1) :: st) h Q) ∧
    (∀ (v0 v1 : Value) (x : Int32) (y : Int32) (st : List Value) (h : mr_h) (Q : Option Value → mr_h → Prop), mr_wp 90 18 [v0, v1] (.int y :: .int x :: st) h Q = mr_wp 90 19 [v0, v1] (.int (x ^^^ y) :: st) h Q) ∧
    (∀ (v0 v1 : Value) (x : Int32) (y : Int32) (st : List Value) (h : mr_h) (Q : Option Value → mr_h → Prop), mr_wp 90 19 [v0, v1] (.int y :: .int x :: st) h Q = mr_wp 90 20 [v0, v1] (.int (x &&& y) :: st) h Q) ∧
    (∀ (v0 v1 : Value) (x : Int32) (h : mr_h) (Q : Option Value → mr_h → Prop), mr_wp 90 20 [v0, v1] [.int x] h Q = Q (some (.int x)) h) :=
  ⟨fun v1 x st h Q => gx_one (i := .aload_n 0) (len := 1) (by decide +kernel) rfl,
   fun v0 v1 o h Q => gx_virt (x := 48) (n := 0) (by decide +kernel) (by decide +kernel) rfl (Or.inl (Nat.le_of_ble_eq_true rfl)) (by show _ ≤ mr_mxl 91; rw [show mr_mxl 91 = 1 from by decide +kernel]; exact Nat.le_of_ble_eq_true rfl) (by decide +kernel),
   fun v1 x st h Q => gx_one (i := .aload_n 0) (len := 1) (by decide +kernel) rfl,
   fun v0 v1 a st h Q => gx_get (x := 9) (by decide +kernel) (by decide +kernel),
   fun v0 x st h Q => gx_one (i := .iload_n 1) (len := 1) (by decide +kernel) rfl,
   fun v0 v1 a x st h Q => gx_iald (by decide +kernel),
   fun v0 v1 st h Q => gx_one (i := .iconst (-1)) (len := 1) (by decide +kernel) rfl,
   fun v0 v1 x y st h Q => gx_one (i := .ixor) (len := 1) (by decide +kernel) rfl,
   fun v0 v1 x y st h Q => gx_one (i := .iand) (len := 1) (by decide +kernel) rfl,
   fun v0 x st h Q => gx_one (i := .iload_n 1) (len := 1) (by decide +kernel) rfl,
   fun v0 v1 a0 r0 h Q => gx_stat (x := 35) (t := 16) (n := 1) (by decide +kernel) (by decide +kernel) (by decide) (by decide +kernel) rfl (Or.inl (Nat.le_of_ble_eq_true rfl)) (by show _ ≤ mr_mxl 16; rw [show mr_mxl 16 = 1 from by decide +kernel]; exact Nat.le_of_ble_eq_true rfl),
   fun v0 v1 st h Q => gx_one (i := .iconst (-1)) (len := 1) (by decide +kernel) rfl,
   fun v0 v1 x y st h Q => gx_one (i := .ixor) (len := 1) (by decide +kernel) rfl,
   fun v0 v1 x y st h Q => gx_one (i := .iand) (len := 1) (by decide +kernel) rfl,
   fun v0 v1 x h Q => gx_ret (i := .ireturn) (len := 1) (by decide +kernel) rfl rfl (by simp only [mr_rt, if_pos]; rw [if_pos (Or.inl (by decide +kernel))])⟩
theorem S_ne_everyNode : (∀ (x : Nat) (st : List Value) (h : mr_h) (Q : Option Value → mr_h → Prop), mr_wp 91 0 [.ref x] st h Q = mr_wp 91 1 [.ref x] (.ref x :: st) h Q) ∧
    (∀ (v0 : Value) (a : Nat) (st : List Value) (h : mr_h) (Q : Option Value → mr_h → Prop), mr_wp 91 1 [v0] (.ref a :: st) h Q = mr_gf (h.1 a) 3 0 (fun v => mr_wp 91 4 [v0] (v :: st) h Q)) ∧
    (∀ (v0 : Value) (a0 : Int32) (h : mr_h) (Q : Option Value → mr_h → Prop), mr_wp 91 4 [v0] [.int a0] h Q = mr_run 16 [.int a0] h (fun v h' => mr_wp 91 7 [v0] (v.toList ++ []) h' Q)) ∧
    (∀ (v0 : Value) (st : List Value) (h : mr_h) (Q : Option Value → mr_h → Prop), mr_wp 91 7 [v0] st h Q = mr_wp 91 8 [v0] (.int (1) :: st) h Q) ∧
    (∀ (v0 : Value) (x : Int32) (y : Int32) (st : List Value) (h : mr_h) (Q : Option Value → mr_h → Prop), mr_wp 91 8 [v0] (.int y :: .int x :: st) h Q = mr_wp 91 9 [v0] (.int (x - y) :: st) h Q) ∧
    (∀ (v0 : Value) (x : Int32) (h : mr_h) (Q : Option Value → mr_h → Prop), mr_wp 91 9 [v0] [.int x] h Q = Q (some (.int x)) h) :=
  ⟨fun x st h Q => gx_one (i := .aload_n 0) (len := 1) (by decide +kernel) rfl,
   fun v0 a st h Q => gx_get (x := 25) (by decide +kernel) (by decide +kernel),
   fun v0 a0 h Q => gx_stat (x := 35) (t := 16) (n := 1) (by decide +kernel) (by decide +kernel) (by decide) (by decide +kernel) rfl (Or.inl (Nat.le_of_ble_eq_true rfl)) (by show _ ≤ mr_mxl 16; rw [show mr_mxl 16 = 1 from by decide +kernel]; exact Nat.le_of_ble_eq_true rfl),
   fun v0 st h Q => gx_one (i := .iconst 1) (len := 1) (by decide +kernel) rfl,
   fun v0 x y st h Q => gx_one (i := .isub) (len := 1) (by decide +kernel) rfl,
   fun v0 x h Q => gx_ret (i := .ireturn) (len := 1) (by decide +kernel) rfl rfl (by simp only [mr_rt, if_pos]; rw [if_pos (Or.inl (by decide +kernel))])⟩
theorem S_rl_edgeNumber : (∀ (v0 v1 : Value) (st : List Value) (h : mr_h) (Q : Option Value → mr_h → Prop), mr_wp 92 0 [v0, v1] st h Q = mr_wp 92 2 [v0, v1] (.int (16) :: st) h Q) ∧
    (∀ (v1 : Value) (x : Int32) (st : List Value) (h : mr_h) (Q : Option Value → mr_h → Prop), mr_wp 92 2 [.int x, v1] st h Q = mr_wp 92 3 [.int x, v1] (.int x :: st) h Q) ∧
    (∀ (v0 v1 : Value) (x : Int32) (y : Int32) (st : List Value) (h : mr_h) (Q : Option Value → mr_h → Prop), mr_wp 92 3 [v0, v1] (.int y :: .int x :: st) h Q = mr_wp 92 4 [v0, v1] (.int (x * y) :: st) h Q) ∧
    (∀ (v0 : Value) (x : Int32) (st : List Value) (h : mr_h) (Q : Option Value → mr_h → Prop), mr_wp 92 4 [v0, .int x] st h Q = mr_wp 92 5 [v0, .int x] (.int x :: st) h Q) ∧
    (∀ (v0 v1 : Value) (x : Int32) (y : Int32) (st : List Value) (h : mr_h) (Q : Option Value → mr_h → Prop), mr_wp 92 5 [v0, v1] (.int y :: .int x :: st) h Q = mr_wp 92 6 [v0, v1] (.int (x + y) :: st) h Q) ∧
    (∀ (v0 v1 : Value) (x : Int32) (h : mr_h) (Q : Option Value → mr_h → Prop), mr_wp 92 6 [v0, v1] [.int x] h Q = Q (some (.int x)) h) :=
  ⟨fun v0 v1 st h Q => gx_one (i := .bipush 16) (len := 2) (by decide +kernel) rfl,
   fun v1 x st h Q => gx_one (i := .iload_n 0) (len := 1) (by decide +kernel) rfl,
   fun v0 v1 x y st h Q => gx_one (i := .imul) (len := 1) (by decide +kernel) rfl,
   fun v0 x st h Q => gx_one (i := .iload_n 1) (len := 1) (by decide +kernel) rfl,
   fun v0 v1 x y st h Q => gx_one (i := .iadd) (len := 1) (by decide +kernel) rfl,
   fun v0 v1 x h Q => gx_ret (i := .ireturn) (len := 1) (by decide +kernel) rfl rfl (by simp only [mr_rt, if_pos]; rw [if_pos (Or.inl (by decide +kernel))])⟩
theorem S_rl_odds_0 : (∀ (v0 v2 v3 v4 : Value) (x : Int32) (st : List Value) (h : mr_h) (Q : Option Value → mr_h → Prop), mr_wp 93 0 [v0, .int x, v2, v3, v4] st h Q = mr_wp 93 1 [v0, .int x, v2, v3, v4] (.int x :: st) h Q) ∧
    (∀ (v0 v1 v2 v3 v4 : Value) (x : Int32) (st : List Value) (h : mr_h) (Q : Option Value → mr_h → Prop), mr_wp 93 1 [v0, v1, v2, v3, v4] (.int x :: st) h Q = if x < 0 then mr_wp 93 27 [v0, v1, v2, v3, v4] st h Q else mr_wp 93 4 [v0, v1, v2, v3, v4] st h Q) ∧
    (∀ (v0 v2 v3 v4 : Value) (x : Int32) (st : List Value) (h : mr_h) (Q : Option Value → mr_h → Prop), mr_wp 93 4 [v0, .int x, v2, v3, v4] st h Q = mr_wp 93 5 [v0, .int x, v2, v3, v4] (.int x :: st) h Q) ∧
    (∀ (v0 v1 v2 v3 v4 : Value) (st : List Value) (h : mr_h) (Q : Option Value → mr_h → Prop), mr_wp 93 5 [v0, v1, v2, v3, v4] st h Q = mr_wp 93 7 [v0, v1, v2, v3, v4] (.int (10) :: st) h Q) ∧
    (∀ (v0 v1 v2 v3 v4 : Value) (x : Int32) (y : Int32) (st : List Value) (h : mr_h) (Q : Option Value → mr_h → Prop), mr_wp 93 7 [v0, v1, v2, v3, v4] (.int y :: .int x :: st) h Q = if y < x then mr_wp 93 27 [v0, v1, v2, v3, v4] st h Q else mr_wp 93 10 [v0, v1, v2, v3, v4] st h Q) ∧
    (∀ (v1 v2 v3 v4 : Value) (x : Nat) (st : List Value) (h : mr_h) (Q : Option Value → mr_h → Prop), mr_wp 93 10 [.ref x, v1, v2, v3, v4] st h Q = mr_wp 93 11 [.ref x, v1, v2, v3, v4] (.ref x :: st) h Q) ∧
    (∀ (v0 v1 v3 v4 : Value) (x : Int32) (st : List Value) (h : mr_h) (Q : Option Value → mr_h → Prop), mr_wp 93 11 [v0, v1, .int x, v3, v4] st h Q = mr_wp 93 12 [v0, v1, .int x, v3, v4] (.int x :: st) h Q) ∧
    (∀ (v0 v1 v2 v4 : Value) (x : Int32) (st : List Value) (h : mr_h) (Q : Option Value → mr_h → Prop), mr_wp 93 12 [v0, v1, v2, .int x, v4] st h Q = mr_wp 93 13 [v0, v1, v2, .int x, v4] (.int x :: st) h Q) ∧
    (∀ (v0 v1 v2 v3 v4 : Value) (a0 : Int32) (a1 : Int32) (o : Nat) (h : mr_h) (Q : Option Value → mr_h → Prop), mr_wp 93 13 [v0, v1, v2, v3, v4] [.int a1, .int a0, .ref o] h Q = mr_rc (h.1 o) 10 (mr_run 47 [.ref o, .int a0, .int a1] h (fun v h' => mr_wp 93 16 [v0, v1, v2, v3, v4] (v.toList ++ []) h' Q))) ∧
    (∀ (v0 v1 v2 v3 v4 : Value) (x : Int32) (st : List Value) (h : mr_h) (Q : Option Value → mr_h → Prop), mr_wp 93 16 [v0, v1, v2, v3, v4] (.int x :: st) h Q = if x = 0 then mr_wp 93 27 [v0, v1, v2, v3, v4] st h Q else mr_wp 93 19 [v0, v1, v2, v3, v4] st h Q) ∧
    (∀ (v0 v1 v2 v3 : Value) (x : Int32) (st : List Value) (h : mr_h) (Q : Option Value → mr_h → Prop), mr_wp 93 19 [v0, v1, v2, v3, .int x] st h Q = mr_wp 93 21 [v0, v1, v2, v3, .int x] (.int x :: st) h Q) ∧
    (∀ (v0 v1 v2 v3 v4 : Value) (a0 : Int32) (h : mr_h) (Q : Option Value → mr_h → Prop), mr_wp 93 21 [v0, v1, v2, v3, v4] [.int a0] h Q = mr_run 82 [.int a0] h (fun v h' => mr_wp 93 24 [v0, v1, v2, v3, v4] (v.toList ++ []) h' Q)) ∧
    (∀ (v0 v1 v2 v3 v4 : Value) (x : Int32) (st : List Value) (h : mr_h) (Q : Option Value → mr_h → Prop), mr_wp 93 24 [v0, v1, v2, v3, v4] (.int x :: st) h Q = if ¬ x = 0 then mr_wp 93 29 [v0, v1, v2, v3, v4] st h Q else mr_wp 93 27 [v0, v1, v2, v3, v4] st h Q) ∧
    (∀ (v0 v1 v2 v3 v4 : Value) (st : List Value) (h : mr_h) (Q : Option Value → mr_h → Prop), mr_wp 93 27 [v0, v1, v2, v3, v4] st h Q = mr_wp 93 28 [v0, v1, v2, v3, v4] (.int (-1) :: st) h Q) ∧
    (∀ (v0 v1 v2 v3 v4 : Value) (x : Int32) (h : mr_h) (Q : Option Value → mr_h → Prop), mr_wp 93 28 [v0, v1, v2, v3, v4] [.int x] h Q = Q (some (.int x)) h) ∧
    (∀ (v1 v2 v3 v4 : Value) (x : Nat) (st : List Value) (h : mr_h) (Q : Option Value → mr_h → Prop), mr_wp 93 29 [.ref x, v1, v2, v3, v4] st h Q = mr_wp 93 30 [.ref x, v1, v2, v3, v4] (.ref x :: st) h Q) ∧
    (∀ (v0 v1 v2 v3 v4 : Value) (a : Nat) (st : List Value) (h : mr_h) (Q : Option Value → mr_h → Prop), mr_wp 93 30 [v0, v1, v2, v3, v4] (.ref a :: st) h Q = mr_gf (h.1 a) 10 0 (fun v => mr_wp 93 33 [v0, v1, v2, v3, v4] (v :: st) h Q)) ∧
    (∀ (v0 v1 v2 v3 v4 : Value) (o : Nat) (h : mr_h) (Q : Option Value → mr_h → Prop), mr_wp 93 33 [v0, v1, v2, v3, v4] [.ref o] h Q = mr_rc (h.1 o) 3 (mr_run 49 [.ref o] h (fun v h' => mr_wp 93 36 [v0, v1, v2, v3, v4] (v.toList ++ []) h' Q))) ∧
    (∀ (v0 v1 v2 v3 v4 : Value) (st : List Value) (h : mr_h) (Q : Option Value → mr_h → Prop), mr_wp 93 36 [v0, v1, v2, v3, v4] st h Q = mr_wp 93 38 [v0, v1, v2, v3, v4] (.int (9) :: st) h Q) ∧
    (∀ (v0 v1 v2 v3 v4 : Value) (x : Int32) (y : Int32) (st : List Value) (h : mr_h) (Q : Option Value → mr_h → Prop), mr_wp 93 38 [v0, v1, v2, v3, v4] (.int y :: .int x :: st) h Q = if x ≤ y then mr_wp 93 44 [v0, v1, v2, v3, v4] st h Q else mr_wp 93 41 [v0, v1, v2, v3, v4] st h Q) ∧
    (∀ (v0 v1 v2 v3 v4 : Value) (st : List Value) (h : mr_h) (Q : Option Value → mr_h → Prop), mr_wp 93 41 [v0, v1, v2, v3, v4] st h Q = mr_wp 93 43 [v0, v1, v2, v3, v4] (.int (-2) :: st) h Q) ∧
    (∀ (v0 v1 v2 v3 v4 : Value) (x : Int32) (h : mr_h) (Q : Option Value → mr_h → Prop), mr_wp 93 43 [v0, v1, v2, v3, v4] [.int x] h Q = Q (some (.int x)) h) ∧
    (∀ (v1 v2 v3 v4 : Value) (x : Nat) (st : List Value) (h : mr_h) (Q : Option Value → mr_h → Prop), mr_wp 93 44 [.ref x, v1, v2, v3, v4] st h Q = mr_wp 93 45 [.ref x, v1, v2, v3, v4] (.ref x :: st) h Q) ∧
    (∀ (v0 v1 v2 v3 v4 : Value) (a : Nat) (st : List Value) (h : mr_h) (Q : Option Value → mr_h → Prop), mr_wp 93 45 [v0, v1, v2, v3, v4] (.ref a :: st) h Q = mr_gf (h.1 a) 10 7 (fun v => mr_wp 93 48 [v0, v1, v2, v3, v4] (v :: st) h Q)) ∧
    (∀ (v1 v2 v3 v4 : Value) (x : Nat) (st : List Value) (h : mr_h) (Q : Option Value → mr_h → Prop), mr_wp 93 48 [.ref x, v1, v2, v3, v4] st h Q = mr_wp 93 49 [.ref x, v1, v2, v3, v4] (.ref x :: st) h Q) ∧
    (∀ (v0 v1 v2 v3 v4 : Value) (a : Nat) (st : List Value) (h : mr_h) (Q : Option Value → mr_h → Prop), mr_wp 93 49 [v0, v1, v2, v3, v4] (.ref a :: st) h Q = mr_gf (h.1 a) 10 0 (fun v => mr_wp 93 52 [v0, v1, v2, v3, v4] (v :: st) h Q)) ∧
    (∀ (v1 v2 v3 v4 : Value) (x : Nat) (st : List Value) (h : mr_h) (Q : Option Value → mr_h → Prop), mr_wp 93 52 [.ref x, v1, v2, v3, v4] st h Q = mr_wp 93 53 [.ref x, v1, v2, v3, v4] (.ref x :: st) h Q) ∧
    (∀ (v0 v1 v2 v3 v4 : Value) (a : Nat) (st : List Value) (h : mr_h) (Q : Option Value → mr_h → Prop), mr_wp 93 53 [v0, v1, v2, v3, v4] (.ref a :: st) h Q = mr_gf (h.1 a) 10 3 (fun v => mr_wp 93 56 [v0, v1, v2, v3, v4] (v :: st) h Q)) ∧
    (∀ (v0 v2 v3 v4 : Value) (x : Int32) (st : List Value) (h : mr_h) (Q : Option Value → mr_h → Prop), mr_wp 93 56 [v0, .int x, v2, v3, v4] st h Q = mr_wp 93 57 [v0, .int x, v2, v3, v4] (.int x :: st) h Q) ∧
    (∀ (v0 v1 v3 v4 : Value) (x : Int32) (st : List Value) (h : mr_h) (Q : Option Value → mr_h → Prop), mr_wp 93 57 [v0, v1, .int x, v3, v4] st h Q = mr_wp 93 58 [v0, v1, .int x, v3, v4] (.int x :: st) h Q) ∧
    (∀ (v0 v1 v2 v4 : Value) (x : Int32) (st : List Value) (h : mr_h) (Q : Option Value → mr_h → Prop), mr_wp 93 58 [v0, v1, v2, .int x, v4] st h Q = mr_wp 93 59 [v0, v1, v2, .int x, v4] (.int x :: st) h Q) ∧
    (∀ (v0 v1 v2 v3 v4 : Value) (a0 : Nat) (a1 : Nat) (a2 : Int32) (a3 : Int32) (a4 : Int32) (o : Nat) (h : mr_h) (Q : Option Value → mr_h → Prop), mr_wp 93 59 [v0, v1, v2, v3, v4] [.int a4, .int a3, .int a2, .ref a1, .ref a0, .ref o] h Q = mr_rc (h.1 o) 1 (mr_run 94 [.ref o, .ref a0, .ref a1, .int a2, .int a3, .int a4] h (fun v h' => mr_wp 93 62 [v0, v1, v2, v3, v4] (v.toList ++ []) h' Q))) ∧
    (∀ (v0 v1 v2 v3 : Value) (x : Int32) (st : List Value) (h : mr_h) (Q : Option Value → mr_h → Prop), mr_wp 93 62 [v0, v1, v2, v3, .int x] st h Q = mr_wp 93 64 [v0, v1, v2, v3, .int x] (.int x :: st) h Q) ∧
    (∀ (v0 v1 v2 v3 v4 : Value) (x : Int32) (st : List Value) (h : mr_h) (Q : Option Value → mr_h → Prop), mr_wp 93 64 [v0, v1, v2, v3, v4] (.int x :: st) h Q = if ¬ x = 0 then mr_wp 93 77 [v0, v1, v2, v3, v4] st h Q else mr_wp 93 67 [v0, v1, v2, v3, v4] st h Q) ∧
    (∀ (v1 v2 v3 v4 : Value) (x : Nat) (st : List Value) (h : mr_h) (Q : Option Value → mr_h → Prop), mr_wp 93 67 [.ref x, v1, v2, v3, v4] st h Q = mr_wp 93 68 [.ref x, v1, v2, v3, v4] (.ref x :: st) h Q) ∧
    (∀ (v0 v1 v2 v3 v4 : Value) (a : Nat) (st : List Value) (h : mr_h) (Q : Option Value → mr_h → Prop), mr_wp 93 68 [v0, v1, v2, v3, v4] (.ref a :: st) h Q = mr_gf (h.1 a) 10 7 (fun v => mr_wp 93 71 [v0, v1, v2, v3, v4] (v :: st) h Q)) ∧
    (∀ (v0 v1 v2 v3 v4 : Value) (a : Nat) (st : List Value) (h : mr_h) (Q : Option Value → mr_h → Prop), mr_wp 93 71 [v0, v1, v2, v3, v4] (.ref a :: st) h Q = mr_gf (h.1 a) 1 0 (fun v => mr_wp 93 74 [v0, v1, v2, v3, v4] (v :: st) h Q)) ∧
    (∀ (v0 v1 v2 v3 v4 : Value) (st : List Value) (h : mr_h) (Q : Option Value → mr_h → Prop), mr_wp 93 74 [v0, v1, v2, v3, v4] st h Q = mr_wp 93 84 [v0, v1, v2, v3, v4] st h Q) ∧
    (∀ (v1 v2 v3 v4 : Value) (x : Nat) (st : List Value) (h : mr_h) (Q : Option Value → mr_h → Prop), mr_wp 93 77 [.ref x, v1, v2, v3, v4] st h Q = mr_wp 93 78 [.ref x, v1, v2, v3, v4] (.ref x :: st) h Q) ∧
    (∀ (v0 v1 v2 v3 v4 : Value) (a : Nat) (st : List Value) (h : mr_h) (Q : Option Value → mr_h → Prop), mr_wp 93 78 [v0, v1, v2, v3, v4] (.ref a :: st) h Q = mr_gf (h.1 a) 10 7 (fun v => mr_wp 93 81 [v0, v1, v2, v3, v4] (v :: st) h Q)) :=
  ⟨fun v0 v2 v3 v4 x st h Q => gx_one (i := .iload_n 1) (len := 1) (by decide +kernel) rfl,
   fun v0 v1 v2 v3 v4 x st h Q => gx_br (i := .ifCond .lt 26) (len := 3) (c := .lt) (by decide +kernel) rfl rfl,
   fun v0 v2 v3 v4 x st h Q => gx_one (i := .iload_n 1) (len := 1) (by decide +kernel) rfl,
   fun v0 v1 v2 v3 v4 st h Q => gx_one (i := .bipush 10) (len := 2) (by decide +kernel) rfl,
   fun v0 v1 v2 v3 v4 x y st h Q => gx_br (i := .if_icmp .gt 20) (len := 3) (c := .gt) (by decide +kernel) rfl rfl,
   fun v1 v2 v3 v4 x st h Q => gx_one (i := .aload_n 0) (len := 1) (by decide +kernel) rfl,
   fun v0 v1 v3 v4 x st h Q => gx_one (i := .iload_n 2) (len := 1) (by decide +kernel) rfl,
   fun v0 v1 v2 v4 x st h Q => gx_one (i := .iload_n 3) (len := 1) (by decide +kernel) rfl,
   fun v0 v1 v2 v3 v4 a0 a1 o h Q => gx_virt (x := 182) (n := 2) (by decide +kernel) (by decide +kernel) rfl (Or.inl (Nat.le_of_ble_eq_true rfl)) (by show _ ≤ mr_mxl 47; rw [show mr_mxl 47 = 3 from by decide +kernel]; exact Nat.le_of_ble_eq_true rfl) (by decide +kernel),
   fun v0 v1 v2 v3 v4 x st h Q => gx_br (i := .ifCond .eq 11) (len := 3) (c := .eq) (by decide +kernel) rfl rfl,
   fun v0 v1 v2 v3 x st h Q => gx_one (i := .iload 4) (len := 2) (by decide +kernel) rfl,
   fun v0 v1 v2 v3 v4 a0 h Q => gx_stat (x := 196) (t := 82) (n := 1) (by decide +kernel) (by decide +kernel) (by decide) (by decide +kernel) rfl (Or.inl (Nat.le_of_ble_eq_true rfl)) (by show _ ≤ mr_mxl 82; rw [show mr_mxl 82 = 1 from by decide +kernel]; exact Nat.le_of_ble_eq_true rfl),
   fun v0 v1 v2 v3 v4 x st h Q => gx_br (i := .ifCond .ne 5) (len := 3) (c := .ne) (by decide +kernel) rfl rfl,
   fun v0 v1 v2 v3 v4 st h Q => gx_one (i := .iconst (-1)) (len := 1) (by decide +kernel) rfl,
   fun v0 v1 v2 v3 v4 x h Q => gx_ret (i := .ireturn) (len := 1) (by decide +kernel) rfl rfl (by simp only [mr_rt, if_pos]; rw [if_pos (Or.inl (by decide +kernel))]),
   fun v1 v2 v3 v4 x st h Q => gx_one (i := .aload_n 0) (len := 1) (by decide +kernel) rfl,
   fun v0 v1 v2 v3 v4 a st h Q => gx_get (x := 10) (by decide +kernel) (by decide +kernel),
   fun v0 v1 v2 v3 v4 o h Q => gx_virt (x := 141) (n := 0) (by decide +kernel) (by decide +kernel) rfl (Or.inl (Nat.le_of_ble_eq_true rfl)) (by show _ ≤ mr_mxl 49; rw [show mr_mxl 49 = 3 from by decide +kernel]; exact Nat.le_of_ble_eq_true rfl) (by decide +kernel),
   fun v0 v1 v2 v3 v4 st h Q => gx_one (i := .bipush 9) (len := 2) (by decide +kernel) rfl,
   fun v0 v1 v2 v3 v4 x y st h Q => gx_br (i := .if_icmp .le 6) (len := 3) (c := .le) (by decide +kernel) rfl rfl,
   fun v0 v1 v2 v3 v4 st h Q => gx_one (i := .bipush (-2)) (len := 2) (by decide +kernel) rfl,
   fun v0 v1 v2 v3 v4 x h Q => gx_ret (i := .ireturn) (len := 1) (by decide +kernel) rfl rfl (by simp only [mr_rt, if_pos]; rw [if_pos (Or.inl (by decide +kernel))]),
   fun v1 v2 v3 v4 x st h Q => gx_one (i := .aload_n 0) (len := 1) (by decide +kernel) rfl,
   fun v0 v1 v2 v3 v4 a st h Q => gx_get (x := 57) (by decide +kernel) (by decide +kernel),
   fun v1 v2 v3 v4 x st h Q => gx_one (i := .aload_n 0) (len := 1) (by decide +kernel) rfl,
   fun v0 v1 v2 v3 v4 a st h Q => gx_get (x := 10) (by decide +kernel) (by decide +kernel),
   fun v1 v2 v3 v4 x st h Q => gx_one (i := .aload_n 0) (len := 1) (by decide +kernel) rfl,
   fun v0 v1 v2 v3 v4 a st h Q => gx_get (x := 29) (by decide +kernel) (by decide +kernel),
   fun v0 v2 v3 v4 x st h Q => gx_one (i := .iload_n 1) (len := 1) (by decide +kernel) rfl,
   fun v0 v1 v3 v4 x st h Q => gx_one (i := .iload_n 2) (len := 1) (by decide +kernel) rfl,
   fun v0 v1 v2 v4 x st h Q => gx_one (i := .iload_n 3) (len := 1) (by decide +kernel) rfl,
   fun v0 v1 v2 v3 v4 a0 a1 a2 a3 a4 o h Q => gx_virt (x := 217) (n := 5) (by decide +kernel) (by decide +kernel) rfl (Or.inl (Nat.le_of_ble_eq_true rfl)) (by show _ ≤ mr_mxl 94; rw [show mr_mxl 94 = 7 from by decide +kernel]; exact Nat.le_of_ble_eq_true rfl) (by decide +kernel),
   fun v0 v1 v2 v3 x st h Q => gx_one (i := .iload 4) (len := 2) (by decide +kernel) rfl,
   fun v0 v1 v2 v3 v4 x st h Q => gx_br (i := .ifCond .ne 13) (len := 3) (c := .ne) (by decide +kernel) rfl rfl,
   fun v1 v2 v3 v4 x st h Q => gx_one (i := .aload_n 0) (len := 1) (by decide +kernel) rfl,
   fun v0 v1 v2 v3 v4 a st h Q => gx_get (x := 57) (by decide +kernel) (by decide +kernel),
   fun v0 v1 v2 v3 v4 a st h Q => gx_get (x := 221) (by decide +kernel) (by decide +kernel),
   fun v0 v1 v2 v3 v4 st h Q => gx_one (i := .goto 10) (len := 3) (by decide +kernel) rfl,
   fun v1 v2 v3 v4 x st h Q => gx_one (i := .aload_n 0) (len := 1) (by decide +kernel) rfl,
   fun v0 v1 v2 v3 v4 a st h Q => gx_get (x := 57) (by decide +kernel) (by decide +kernel)⟩
theorem S_rl_odds_1 : (∀ (v0 v1 v2 v3 v4 : Value) (a : Nat) (st : List Value) (h : mr_h) (Q : Option Value → mr_h → Prop), mr_wp 93 81 [v0, v1, v2, v3, v4] (.ref a :: st) h Q = mr_gf (h.1 a) 1 1 (fun v => mr_wp 93 84 [v0, v1, v2, v3, v4] (v :: st) h Q)) ∧
    (∀ (v0 v1 v2 v3 v4 : Value) (x : Int64) (st : List Value) (h : mr_h) (Q : Option Value → mr_h → Prop), mr_wp 93 84 [v0, v1, v2, v3, v4] (.long x :: st) h Q = mr_wp 93 85 [v0, v1, v2, v3, v4] (.int x.toInt32 :: st) h Q) ∧
    (∀ (v0 v1 v2 v3 v4 : Value) (x : Int32) (h : mr_h) (Q : Option Value → mr_h → Prop), mr_wp 93 85 [v0, v1, v2, v3, v4] [.int x] h Q = Q (some (.int x)) h) :=
  ⟨fun v0 v1 v2 v3 v4 a st h Q => gx_get (x := 225) (by decide +kernel) (by decide +kernel),
   fun v0 v1 v2 v3 v4 x st h Q => gx_one (i := .l2i) (len := 1) (by decide +kernel) rfl,
   fun v0 v1 v2 v3 v4 x h Q => gx_ret (i := .ireturn) (len := 1) (by decide +kernel) rfl rfl (by simp only [mr_rt, if_pos]; rw [if_pos (Or.inl (by decide +kernel))])⟩

theorem s_ch_weigh_33 (v0 v1 v2 v3 v4 v5 : Value) (x : Int32) (st : List Value) (h : mr_h) (Q : Option Value → mr_h → Prop) : mr_wp 94 33 [v0, v1, v2, v3, v4, v5, .int x] st h Q = mr_wp 94 35 [v0, v1, v2, v3, v4, v5, .int x] (.int x :: st) h Q := gx_one (i := .iload 6) (len := 2) (by decide +kernel) rfl
theorem S_ch_weigh_0 : (∀ (v1 v2 v3 v4 v5 v6 : Value) (x : Nat) (st : List Value) (h : mr_h) (Q : Option Value → mr_h → Prop), mr_wp 94 0 [.ref x, v1, v2, v3, v4, v5, v6] st h Q = mr_wp 94 1 [.ref x, v1, v2, v3, v4, v5, v6] (.ref x :: st) h Q) ∧
    (∀ (v0 v2 v3 v4 v5 v6 : Value) (x : Nat) (st : List Value) (h : mr_h) (Q : Option Value → mr_h → Prop), mr_wp 94 1 [v0, .ref x, v2, v3, v4, v5, v6] st h Q = mr_wp 94 2 [v0, .ref x, v2, v3, v4, v5, v6] (.ref x :: st) h Q) ∧
    (∀ (v0 v1 v3 v4 v5 v6 : Value) (x : Nat) (st : List Value) (h : mr_h) (Q : Option Value → mr_h → Prop), mr_wp 94 2 [v0, v1, .ref x, v3, v4, v5, v6] st h Q = mr_wp 94 3 [v0, v1, .ref x, v3, v4, v5, v6] (.ref x :: st) h Q) ∧
    (∀ (v0 v1 v2 v3 v4 v5 v6 : Value) (a : Nat) (st : List Value) (h : mr_h) (Q : Option Value → mr_h → Prop), mr_wp 94 3 [v0, v1, v2, v3, v4, v5, v6] (.ref a :: st) h Q = mr_gf (h.1 a) 6 0 (fun v => mr_wp 94 6 [v0, v1, v2, v3, v4, v5, v6] (v :: st) h Q)) ∧
    (∀ (v0 v1 v2 v3 v5 v6 : Value) (x : Int32) (st : List Value) (h : mr_h) (Q : Option Value → mr_h → Prop), mr_wp 94 6 [v0, v1, v2, v3, .int x, v5, v6] st h Q = mr_wp 94 8 [v0, v1, v2, v3, .int x, v5, v6] (.int x :: st) h Q) ∧
    (∀ (v0 v1 v2 v3 v4 v5 v6 : Value) (a : Nat) (x : Int32) (st : List Value) (h : mr_h) (Q : Option Value → mr_h → Prop), mr_wp 94 8 [v0, v1, v2, v3, v4, v5, v6] (.int x :: .ref a :: st) h Q = mr_ai (h.1 a) x (fun v => mr_wp 94 9 [v0, v1, v2, v3, v4, v5, v6] (.int v :: st) h Q)) ∧
    (∀ (v0 v1 v3 v4 v5 v6 : Value) (x : Nat) (st : List Value) (h : mr_h) (Q : Option Value → mr_h → Prop), mr_wp 94 9 [v0, v1, .ref x, v3, v4, v5, v6] st h Q = mr_wp 94 10 [v0, v1, .ref x, v3, v4, v5, v6] (.ref x :: st) h Q) ∧
    (∀ (v0 v1 v2 v3 v4 v5 v6 : Value) (a : Nat) (st : List Value) (h : mr_h) (Q : Option Value → mr_h → Prop), mr_wp 94 10 [v0, v1, v2, v3, v4, v5, v6] (.ref a :: st) h Q = mr_gf (h.1 a) 6 1 (fun v => mr_wp 94 13 [v0, v1, v2, v3, v4, v5, v6] (v :: st) h Q)) ∧
    (∀ (v0 v1 v2 v3 v4 v6 : Value) (x : Int32) (st : List Value) (h : mr_h) (Q : Option Value → mr_h → Prop), mr_wp 94 13 [v0, v1, v2, v3, v4, .int x, v6] st h Q = mr_wp 94 15 [v0, v1, v2, v3, v4, .int x, v6] (.int x :: st) h Q) ∧
    (∀ (v0 v1 v2 v3 v4 v5 v6 : Value) (a : Nat) (x : Int32) (st : List Value) (h : mr_h) (Q : Option Value → mr_h → Prop), mr_wp 94 15 [v0, v1, v2, v3, v4, v5, v6] (.int x :: .ref a :: st) h Q = mr_ai (h.1 a) x (fun v => mr_wp 94 16 [v0, v1, v2, v3, v4, v5, v6] (.int v :: st) h Q)) ∧
    (∀ (v0 v1 v2 v3 v4 v5 v6 : Value) (x : Int32) (y : Int32) (st : List Value) (h : mr_h) (Q : Option Value → mr_h → Prop), mr_wp 94 16 [v0, v1, v2, v3, v4, v5, v6] (.int y :: .int x :: st) h Q = mr_wp 94 17 [v0, v1, v2, v3, v4, v5, v6] (.int (x &&& y) :: st) h Q) ∧
    (∀ (v0 v1 v2 v3 v4 v5 v6 : Value) (a0 : Nat) (a1 : Int32) (o : Nat) (h : mr_h) (Q : Option Value → mr_h → Prop), mr_wp 94 17 [v0, v1, v2, v3, v4, v5, v6] [.int a1, .ref a0, .ref o] h Q = mr_rc (h.1 o) 1 (mr_run 95 [.ref o, .ref a0, .int a1] h (fun v h' => mr_wp 94 20 [v0, v1, v2, v3, v4, v5, v6] (v.toList ++ []) h' Q))) ∧
    (∀ (v1 v2 v3 v4 v5 v6 : Value) (x : Nat) (st : List Value) (h : mr_h) (Q : Option Value → mr_h → Prop), mr_wp 94 20 [.ref x, v1, v2, v3, v4, v5, v6] st h Q = mr_wp 94 21 [.ref x, v1, v2, v3, v4, v5, v6] (.ref x :: st) h Q) ∧
    (∀ (v0 v1 v2 v4 v5 v6 : Value) (x : Int32) (st : List Value) (h : mr_h) (Q : Option Value → mr_h → Prop), mr_wp 94 21 [v0, v1, v2, .int x, v4, v5, v6] st h Q = mr_wp 94 22 [v0, v1, v2, .int x, v4, v5, v6] (.int x :: st) h Q) ∧
    (∀ (v0 v1 v2 v3 v4 v5 v6 : Value) (a0 : Int32) (o : Nat) (h : mr_h) (Q : Option Value → mr_h → Prop), mr_wp 94 22 [v0, v1, v2, v3, v4, v5, v6] [.int a0, .ref o] h Q = mr_rc (h.1 o) 1 (mr_run 96 [.ref o, .int a0] h (fun v h' => mr_wp 94 25 [v0, v1, v2, v3, v4, v5, v6] (v.toList ++ []) h' Q))) ∧
    (∀ (v1 v2 v3 v4 v5 v6 : Value) (x : Nat) (st : List Value) (h : mr_h) (Q : Option Value → mr_h → Prop), mr_wp 94 25 [.ref x, v1, v2, v3, v4, v5, v6] st h Q = mr_wp 94 26 [.ref x, v1, v2, v3, v4, v5, v6] (.ref x :: st) h Q) ∧
    (∀ (v0 v1 v2 v3 v4 v5 v6 : Value) (st : List Value) (h : mr_h) (Q : Option Value → mr_h → Prop), mr_wp 94 26 [v0, v1, v2, v3, v4, v5, v6] st h Q = mr_wp 94 27 [v0, v1, v2, v3, v4, v5, v6] (.long (0) :: st) h Q) ∧
    (∀ (v0 v1 v2 v3 v4 v5 v6 : Value) (a : Nat) (x : Int64) (st : List Value) (h : mr_h) (Q : Option Value → mr_h → Prop), mr_wp 94 27 [v0, v1, v2, v3, v4, v5, v6] (.long x :: .ref a :: st) h Q = mr_pf (h.1 a) 1 0 (.long x) (fun c => mr_wp 94 30 [v0, v1, v2, v3, v4, v5, v6] st (mr_up h a c) Q)) ∧
    (∀ (v0 v1 v2 v3 v4 v5 v6 : Value) (st : List Value) (h : mr_h) (Q : Option Value → mr_h → Prop), mr_wp 94 30 [v0, v1, v2, v3, v4, v5, v6] st h Q = mr_wp 94 31 [v0, v1, v2, v3, v4, v5, v6] (.int (0) :: st) h Q) ∧
    (∀ (v0 v1 v2 v3 v4 v6 : Value) (w5 : Int32) (x : Int32) (st : List Value) (h : mr_h) (Q : Option Value → mr_h → Prop), mr_wp 94 31 [v0, v1, v2, v3, v4, .int w5, v6] (.int x :: st) h Q = mr_wp 94 33 [v0, v1, v2, v3, v4, .int w5, .int x] st h Q) ∧
    (∀ (v1 v2 v3 v4 v5 v6 : Value) (x : Nat) (st : List Value) (h : mr_h) (Q : Option Value → mr_h → Prop), mr_wp 94 35 [.ref x, v1, v2, v3, v4, v5, v6] st h Q = mr_wp 94 36 [.ref x, v1, v2, v3, v4, v5, v6] (.ref x :: st) h Q) ∧
    (∀ (v0 v1 v2 v3 v4 v5 v6 : Value) (a : Nat) (st : List Value) (h : mr_h) (Q : Option Value → mr_h → Prop), mr_wp 94 36 [v0, v1, v2, v3, v4, v5, v6] (.ref a :: st) h Q = mr_gf (h.1 a) 1 5 (fun v => mr_wp 94 39 [v0, v1, v2, v3, v4, v5, v6] (v :: st) h Q)) ∧
    (∀ (v0 v1 v2 v3 v4 v5 v6 : Value) (a0 : Int32) (r0 : Value) (h : mr_h) (Q : Option Value → mr_h → Prop), mr_wp 94 39 [v0, v1, v2, v3, v4, v5, v6] [.int a0, r0] h Q = mr_run 16 [.int a0] h (fun v h' => mr_wp 94 42 [v0, v1, v2, v3, v4, v5, v6] (v.toList ++ [r0]) h' Q)) ∧
    (∀ (v0 v1 v2 v3 v4 v5 v6 : Value) (x : Int32) (y : Int32) (st : List Value) (h : mr_h) (Q : Option Value → mr_h → Prop), mr_wp 94 42 [v0, v1, v2, v3, v4, v5, v6] (.int y :: .int x :: st) h Q = if y ≤ x then mr_wp 94 83 [v0, v1, v2, v3, v4, v5, v6] st h Q else mr_wp 94 45 [v0, v1, v2, v3, v4, v5, v6] st h Q) ∧
    (∀ (v1 v2 v3 v4 v5 v6 : Value) (x : Nat) (st : List Value) (h : mr_h) (Q : Option Value → mr_h → Prop), mr_wp 94 45 [.ref x, v1, v2, v3, v4, v5, v6] st h Q = mr_wp 94 46 [.ref x, v1, v2, v3, v4, v5, v6] (.ref x :: st) h Q) ∧
    (∀ (v0 v1 v2 v3 v4 v5 : Value) (x : Int32) (st : List Value) (h : mr_h) (Q : Option Value → mr_h → Prop), mr_wp 94 46 [v0, v1, v2, v3, v4, v5, .int x] st h Q = mr_wp 94 48 [v0, v1, v2, v3, v4, v5, .int x] (.int x :: st) h Q) ∧
    (∀ (v0 v1 v2 v3 v5 v6 : Value) (x : Int32) (st : List Value) (h : mr_h) (Q : Option Value → mr_h → Prop), mr_wp 94 48 [v0, v1, v2, v3, .int x, v5, v6] st h Q = mr_wp 94 50 [v0, v1, v2, v3, .int x, v5, v6] (.int x :: st) h Q) ∧
    (∀ (v0 v1 v2 v3 v4 v6 : Value) (x : Int32) (st : List Value) (h : mr_h) (Q : Option Value → mr_h → Prop), mr_wp 94 50 [v0, v1, v2, v3, v4, .int x, v6] st h Q = mr_wp 94 52 [v0, v1, v2, v3, v4, .int x, v6] (.int x :: st) h Q) ∧
    (∀ (v0 v1 v2 v3 v4 v5 v6 : Value) (a0 : Int32) (a1 : Int32) (a2 : Int32) (o : Nat) (h : mr_h) (Q : Option Value → mr_h → Prop), mr_wp 94 52 [v0, v1, v2, v3, v4, v5, v6] [.int a2, .int a1, .int a0, .ref o] h Q = mr_rc (h.1 o) 1 (mr_run 98 [.ref o, .int a0, .int a1, .int a2] h (fun v h' => mr_wp 94 55 [v0, v1, v2, v3, v4, v5, v6] (v.toList ++ []) h' Q))) ∧
    (∀ (v0 v1 v2 v3 v4 v5 v6 : Value) (x : Int32) (st : List Value) (h : mr_h) (Q : Option Value → mr_h → Prop), mr_wp 94 55 [v0, v1, v2, v3, v4, v5, v6] (.int x :: st) h Q = if x = 0 then mr_wp 94 77 [v0, v1, v2, v3, v4, v5, v6] st h Q else mr_wp 94 58 [v0, v1, v2, v3, v4, v5, v6] st h Q) ∧
    (∀ (v1 v2 v3 v4 v5 v6 : Value) (x : Nat) (st : List Value) (h : mr_h) (Q : Option Value → mr_h → Prop), mr_wp 94 58 [.ref x, v1, v2, v3, v4, v5, v6] st h Q = mr_wp 94 59 [.ref x, v1, v2, v3, v4, v5, v6] (.ref x :: st) h Q) ∧
    (∀ (v0 v1 v2 v3 v4 v5 v6 : Value) (x : Nat) (st : List Value) (h : mr_h) (Q : Option Value → mr_h → Prop), mr_wp 94 59 [v0, v1, v2, v3, v4, v5, v6] (.ref x :: st) h Q = mr_wp 94 60 [v0, v1, v2, v3, v4, v5, v6] (.ref x :: .ref x :: st) h Q) ∧
    (∀ (v0 v1 v2 v3 v4 v5 v6 : Value) (a : Nat) (st : List Value) (h : mr_h) (Q : Option Value → mr_h → Prop), mr_wp 94 60 [v0, v1, v2, v3, v4, v5, v6] (.ref a :: st) h Q = mr_gf (h.1 a) 1 0 (fun v => mr_wp 94 63 [v0, v1, v2, v3, v4, v5, v6] (v :: st) h Q)) ∧
    (∀ (v1 v2 v3 v4 v5 v6 : Value) (x : Nat) (st : List Value) (h : mr_h) (Q : Option Value → mr_h → Prop), mr_wp 94 63 [.ref x, v1, v2, v3, v4, v5, v6] st h Q = mr_wp 94 64 [.ref x, v1, v2, v3, v4, v5, v6] (.ref x :: st) h Q) ∧
    (∀ (v0 v1 v2 v3 v4 v5 v6 : Value) (a : Nat) (st : List Value) (h : mr_h) (Q : Option Value → mr_h → Prop), mr_wp 94 64 [v0, v1, v2, v3, v4, v5, v6] (.ref a :: st) h Q = mr_gf (h.1 a) 1 4 (fun v => mr_wp 94 67 [v0, v1, v2, v3, v4, v5, v6] (v :: st) h Q)) ∧
    (∀ (v0 v1 v2 v3 v4 v5 : Value) (x : Int32) (st : List Value) (h : mr_h) (Q : Option Value → mr_h → Prop), mr_wp 94 67 [v0, v1, v2, v3, v4, v5, .int x] st h Q = mr_wp 94 69 [v0, v1, v2, v3, v4, v5, .int x] (.int x :: st) h Q) ∧
    (∀ (v0 v1 v2 v3 v4 v5 v6 : Value) (a0 : Int32) (r0 : Value) (r1 : Value) (r2 : Value) (h : mr_h) (Q : Option Value → mr_h → Prop), mr_wp 94 69 [v0, v1, v2, v3, v4, v5, v6] [.int a0, r0, r1, r2] h Q = mr_run 50 [.int a0] h (fun v h' => mr_wp 94 72 [v0, v1, v2, v3, v4, v5, v6] (v.toList ++ [r0, r1, r2]) h' Q)) ∧
    (∀ (v0 v1 v2 v3 v4 v5 v6 : Value) (a : Nat) (x : Int32) (st : List Value) (h : mr_h) (Q : Option Value → mr_h → Prop), mr_wp 94 72 [v0, v1, v2, v3, v4, v5, v6] (.int x :: .ref a :: st) h Q = mr_aj (h.1 a) x (fun v => mr_wp 94 73 [v0, v1, v2, v3, v4, v5, v6] (.long v :: st) h Q)) ∧
    (∀ (v0 v1 v2 v3 v4 v5 v6 : Value) (x : Int64) (y : Int64) (st : List Value) (h : mr_h) (Q : Option Value → mr_h → Prop), mr_wp 94 73 [v0, v1, v2, v3, v4, v5, v6] (.long y :: .long x :: st) h Q = mr_wp 94 74 [v0, v1, v2, v3, v4, v5, v6] (.long (x + y) :: st) h Q) ∧
    (∀ (v0 v1 v2 v3 v4 v5 v6 : Value) (a : Nat) (x : Int64) (st : List Value) (h : mr_h) (Q : Option Value → mr_h → Prop), mr_wp 94 74 [v0, v1, v2, v3, v4, v5, v6] (.long x :: .ref a :: st) h Q = mr_pf (h.1 a) 1 0 (.long x) (fun c => mr_wp 94 77 [v0, v1, v2, v3, v4, v5, v6] st (mr_up h a c) Q)) :=
  ⟨fun v1 v2 v3 v4 v5 v6 x st h Q => gx_one (i := .aload_n 0) (len := 1) (by decide +kernel) rfl,
   fun v0 v2 v3 v4 v5 v6 x st h Q => gx_one (i := .aload_n 1) (len := 1) (by decide +kernel) rfl,
   fun v0 v1 v3 v4 v5 v6 x st h Q => gx_one (i := .aload_n 2) (len := 1) (by decide +kernel) rfl,
   fun v0 v1 v2 v3 v4 v5 v6 a st h Q => gx_get (x := 33) (by decide +kernel) (by decide +kernel),
   fun v0 v1 v2 v3 v5 v6 x st h Q => gx_one (i := .iload 4) (len := 2) (by decide +kernel) rfl,
   fun v0 v1 v2 v3 v4 v5 v6 a x st h Q => gx_iald (by decide +kernel),
   fun v0 v1 v3 v4 v5 v6 x st h Q => gx_one (i := .aload_n 2) (len := 1) (by decide +kernel) rfl,
   fun v0 v1 v2 v3 v4 v5 v6 a st h Q => gx_get (x := 38) (by decide +kernel) (by decide +kernel),
   fun v0 v1 v2 v3 v4 v6 x st h Q => gx_one (i := .iload 5) (len := 2) (by decide +kernel) rfl,
   fun v0 v1 v2 v3 v4 v5 v6 a x st h Q => gx_iald (by decide +kernel),
   fun v0 v1 v2 v3 v4 v5 v6 x y st h Q => gx_one (i := .iand) (len := 1) (by decide +kernel) rfl,
   fun v0 v1 v2 v3 v4 v5 v6 a0 a1 o h Q => gx_virt (x := 41) (n := 2) (by decide +kernel) (by decide +kernel) rfl (Or.inl (Nat.le_of_ble_eq_true rfl)) (by show _ ≤ mr_mxl 95; rw [show mr_mxl 95 = 6 from by decide +kernel]; exact Nat.le_of_ble_eq_true rfl) (by decide +kernel),
   fun v1 v2 v3 v4 v5 v6 x st h Q => gx_one (i := .aload_n 0) (len := 1) (by decide +kernel) rfl,
   fun v0 v1 v2 v4 v5 v6 x st h Q => gx_one (i := .iload_n 3) (len := 1) (by decide +kernel) rfl,
   fun v0 v1 v2 v3 v4 v5 v6 a0 o h Q => gx_virt (x := 45) (n := 1) (by decide +kernel) (by decide +kernel) rfl (Or.inl (Nat.le_of_ble_eq_true rfl)) (by show _ ≤ mr_mxl 96; rw [show mr_mxl 96 = 3 from by decide +kernel]; exact Nat.le_of_ble_eq_true rfl) (by decide +kernel),
   fun v1 v2 v3 v4 v5 v6 x st h Q => gx_one (i := .aload_n 0) (len := 1) (by decide +kernel) rfl,
   fun v0 v1 v2 v3 v4 v5 v6 st h Q => gx_one (i := .lconst 0) (len := 1) (by decide +kernel) rfl,
   fun v0 v1 v2 v3 v4 v5 v6 a x st h Q => gx_put (x := 9) (by decide +kernel) (by decide +kernel) ⟨rfl, Or.inl rfl⟩,
   fun v0 v1 v2 v3 v4 v5 v6 st h Q => gx_one (i := .iconst 0) (len := 1) (by decide +kernel) rfl,
   fun v0 v1 v2 v3 v4 v6 w5 x st h Q => gx_one (i := .istore 6) (len := 2) (by decide +kernel) rfl,
   fun v1 v2 v3 v4 v5 v6 x st h Q => gx_one (i := .aload_n 0) (len := 1) (by decide +kernel) rfl,
   fun v0 v1 v2 v3 v4 v5 v6 a st h Q => gx_get (x := 29) (by decide +kernel) (by decide +kernel),
   fun v0 v1 v2 v3 v4 v5 v6 a0 r0 h Q => gx_stat (x := 49) (t := 16) (n := 1) (by decide +kernel) (by decide +kernel) (by decide) (by decide +kernel) rfl (Or.inl (Nat.le_of_ble_eq_true rfl)) (by show _ ≤ mr_mxl 16; rw [show mr_mxl 16 = 1 from by decide +kernel]; exact Nat.le_of_ble_eq_true rfl),
   fun v0 v1 v2 v3 v4 v5 v6 x y st h Q => gx_br (i := .if_icmp .ge 41) (len := 3) (c := .ge) (by decide +kernel) rfl rfl,
   fun v1 v2 v3 v4 v5 v6 x st h Q => gx_one (i := .aload_n 0) (len := 1) (by decide +kernel) rfl,
   fun v0 v1 v2 v3 v4 v5 x st h Q => gx_one (i := .iload 6) (len := 2) (by decide +kernel) rfl,
   fun v0 v1 v2 v3 v5 v6 x st h Q => gx_one (i := .iload 4) (len := 2) (by decide +kernel) rfl,
   fun v0 v1 v2 v3 v4 v6 x st h Q => gx_one (i := .iload 5) (len := 2) (by decide +kernel) rfl,
   fun v0 v1 v2 v3 v4 v5 v6 a0 a1 a2 o h Q => gx_virt (x := 53) (n := 3) (by decide +kernel) (by decide +kernel) rfl (Or.inl (Nat.le_of_ble_eq_true rfl)) (by show _ ≤ mr_mxl 98; rw [show mr_mxl 98 = 8 from by decide +kernel]; exact Nat.le_of_ble_eq_true rfl) (by decide +kernel),
   fun v0 v1 v2 v3 v4 v5 v6 x st h Q => gx_br (i := .ifCond .eq 22) (len := 3) (c := .eq) (by decide +kernel) rfl rfl,
   fun v1 v2 v3 v4 v5 v6 x st h Q => gx_one (i := .aload_n 0) (len := 1) (by decide +kernel) rfl,
   fun v0 v1 v2 v3 v4 v5 v6 x st h Q => gx_one (i := .dup) (len := 1) (by decide +kernel) rfl,
   fun v0 v1 v2 v3 v4 v5 v6 a st h Q => gx_get (x := 9) (by decide +kernel) (by decide +kernel),
   fun v1 v2 v3 v4 v5 v6 x st h Q => gx_one (i := .aload_n 0) (len := 1) (by decide +kernel) rfl,
   fun v0 v1 v2 v3 v4 v5 v6 a st h Q => gx_get (x := 25) (by decide +kernel) (by decide +kernel),
   fun v0 v1 v2 v3 v4 v5 x st h Q => gx_one (i := .iload 6) (len := 2) (by decide +kernel) rfl,
   fun v0 v1 v2 v3 v4 v5 v6 a0 r0 r1 r2 h Q => gx_stat (x := 57) (t := 50) (n := 1) (by decide +kernel) (by decide +kernel) (by decide) (by decide +kernel) rfl (Or.inl (Nat.le_of_ble_eq_true rfl)) (by show _ ≤ mr_mxl 50; rw [show mr_mxl 50 = 1 from by decide +kernel]; exact Nat.le_of_ble_eq_true rfl),
   fun v0 v1 v2 v3 v4 v5 v6 a x st h Q => gx_lald (by decide +kernel),
   fun v0 v1 v2 v3 v4 v5 v6 x y st h Q => gx_one (i := .ladd) (len := 1) (by decide +kernel) rfl,
   fun v0 v1 v2 v3 v4 v5 v6 a x st h Q => gx_put (x := 9) (by decide +kernel) (by decide +kernel) ⟨rfl, Or.inl rfl⟩⟩
theorem S_ch_weigh_1 : (∀ (v0 v1 v2 v3 v4 : Value) (x : Int32) (w5 : Int32) (st : List Value) (h : mr_h) (Q : Option Value → mr_h → Prop), mr_wp 94 77 [v0, v1, v2, v3, v4, .int w5, .int x] st h Q = mr_wp 94 80 [v0, v1, v2, v3, v4, .int w5, .int (x + (1))] st h Q) ∧
    (∀ (v0 v1 v2 v3 v4 v5 v6 : Value) (st : List Value) (h : mr_h) (Q : Option Value → mr_h → Prop), mr_wp 94 80 [v0, v1, v2, v3, v4, v5, v6] st h Q = mr_wp 94 33 [v0, v1, v2, v3, v4, v5, v6] st h Q) ∧
    (∀ (v1 v2 v3 v4 v5 v6 : Value) (x : Nat) (st : List Value) (h : mr_h) (Q : Option Value → mr_h → Prop), mr_wp 94 83 [.ref x, v1, v2, v3, v4, v5, v6] st h Q = mr_wp 94 84 [.ref x, v1, v2, v3, v4, v5, v6] (.ref x :: st) h Q) ∧
    (∀ (v0 v1 v2 v3 v4 v5 v6 : Value) (st : List Value) (h : mr_h) (Q : Option Value → mr_h → Prop), mr_wp 94 84 [v0, v1, v2, v3, v4, v5, v6] st h Q = mr_wp 94 87 [v0, v1, v2, v3, v4, v5, v6] (.long (10) :: st) h Q) ∧
    (∀ (v1 v2 v3 v4 v5 v6 : Value) (x : Nat) (st : List Value) (h : mr_h) (Q : Option Value → mr_h → Prop), mr_wp 94 87 [.ref x, v1, v2, v3, v4, v5, v6] st h Q = mr_wp 94 88 [.ref x, v1, v2, v3, v4, v5, v6] (.ref x :: st) h Q) ∧
    (∀ (v0 v1 v2 v3 v4 v5 v6 : Value) (a : Nat) (st : List Value) (h : mr_h) (Q : Option Value → mr_h → Prop), mr_wp 94 88 [v0, v1, v2, v3, v4, v5, v6] (.ref a :: st) h Q = mr_gf (h.1 a) 1 5 (fun v => mr_wp 94 91 [v0, v1, v2, v3, v4, v5, v6] (v :: st) h Q)) ∧
    (∀ (v0 v1 v2 v3 v4 v5 v6 : Value) (a0 : Int64) (a1 : Int32) (r0 : Value) (h : mr_h) (Q : Option Value → mr_h → Prop), mr_wp 94 91 [v0, v1, v2, v3, v4, v5, v6] [.int a1, .long a0, r0] h Q = mr_run 97 [.long a0, .int a1] h (fun v h' => mr_wp 94 94 [v0, v1, v2, v3, v4, v5, v6] (v.toList ++ [r0]) h' Q)) ∧
    (∀ (v0 v1 v2 v3 v4 v5 v6 : Value) (a : Nat) (x : Int64) (st : List Value) (h : mr_h) (Q : Option Value → mr_h → Prop), mr_wp 94 94 [v0, v1, v2, v3, v4, v5, v6] (.long x :: .ref a :: st) h Q = mr_pf (h.1 a) 1 1 (.long x) (fun c => mr_wp 94 97 [v0, v1, v2, v3, v4, v5, v6] st (mr_up h a c) Q)) ∧
    (∀ (v1 v2 v3 v4 v5 v6 : Value) (x : Nat) (st : List Value) (h : mr_h) (Q : Option Value → mr_h → Prop), mr_wp 94 97 [.ref x, v1, v2, v3, v4, v5, v6] st h Q = mr_wp 94 98 [.ref x, v1, v2, v3, v4, v5, v6] (.ref x :: st) h Q) ∧
    (∀ (v0 v1 v2 v3 v4 v5 v6 : Value) (o : Nat) (h : mr_h) (Q : Option Value → mr_h → Prop), mr_wp 94 98 [v0, v1, v2, v3, v4, v5, v6] [.ref o] h Q = mr_rc (h.1 o) 1 (mr_run 99 [.ref o] h (fun v h' => mr_wp 94 101 [v0, v1, v2, v3, v4, v5, v6] (v.toList ++ []) h' Q))) ∧
    (∀ (v0 v1 v2 v3 v4 v5 v6 : Value) (h : mr_h) (Q : Option Value → mr_h → Prop), mr_wp 94 101 [v0, v1, v2, v3, v4, v5, v6] [] h Q = Q none h) :=
  ⟨fun v0 v1 v2 v3 v4 x w5 st h Q => gx_one (i := .iinc 6 1) (len := 3) (by decide +kernel) rfl,
   fun v0 v1 v2 v3 v4 v5 v6 st h Q => gx_one (i := .goto (-47)) (len := 3) (by decide +kernel) rfl,
   fun v1 v2 v3 v4 v5 v6 x st h Q => gx_one (i := .aload_n 0) (len := 1) (by decide +kernel) rfl,
   fun v0 v1 v2 v3 v4 v5 v6 st h Q => gx_ldc2 (x := 62) (by decide +kernel) (by decide +kernel),
   fun v1 v2 v3 v4 v5 v6 x st h Q => gx_one (i := .aload_n 0) (len := 1) (by decide +kernel) rfl,
   fun v0 v1 v2 v3 v4 v5 v6 a st h Q => gx_get (x := 29) (by decide +kernel) (by decide +kernel),
   fun v0 v1 v2 v3 v4 v5 v6 a0 a1 r0 h Q => gx_stat (x := 64) (t := 97) (n := 2) (by decide +kernel) (by decide +kernel) (by decide) (by decide +kernel) rfl (Or.inl (Nat.le_of_ble_eq_true rfl)) (by show _ ≤ mr_mxl 97; rw [show mr_mxl 97 = 6 from by decide +kernel]; exact Nat.le_of_ble_eq_true rfl),
   fun v0 v1 v2 v3 v4 v5 v6 a x st h Q => gx_put (x := 15) (by decide +kernel) (by decide +kernel) ⟨rfl, Or.inl rfl⟩,
   fun v1 v2 v3 v4 v5 v6 x st h Q => gx_one (i := .aload_n 0) (len := 1) (by decide +kernel) rfl,
   fun v0 v1 v2 v3 v4 v5 v6 o h Q => gx_virt (x := 68) (n := 0) (by decide +kernel) (by decide +kernel) rfl (Or.inl (Nat.le_of_ble_eq_true rfl)) (by show _ ≤ mr_mxl 99; rw [show mr_mxl 99 = 8 from by decide +kernel]; exact Nat.le_of_ble_eq_true rfl) (by decide +kernel),
   fun v0 v1 v2 v3 v4 v5 v6 h Q => gx_ret (i := .return_) (len := 1) (by decide +kernel) rfl rfl (by simp only [mr_rt, if_pos]; rw [if_pos (by decide +kernel)])⟩

theorem s_ch_takeEdges_7 (v0 v1 v2 v4 v5 : Value) (x : Int32) (st : List Value) (h : mr_h) (Q : Option Value → mr_h → Prop) : mr_wp 95 7 [v0, v1, v2, .int x, v4, v5] st h Q = mr_wp 95 8 [v0, v1, v2, .int x, v4, v5] (.int x :: st) h Q := gx_one (i := .iload_n 3) (len := 1) (by decide +kernel) rfl
theorem s_ch_takeEdges_18 (v0 v1 v2 v3 v5 : Value) (x : Int32) (st : List Value) (h : mr_h) (Q : Option Value → mr_h → Prop) : mr_wp 95 18 [v0, v1, v2, v3, .int x, v5] st h Q = mr_wp 95 20 [v0, v1, v2, v3, .int x, v5] (.int x :: st) h Q := gx_one (i := .iload 4) (len := 2) (by decide +kernel) rfl
theorem S_ch_takeEdges_0 : (∀ (v1 v2 v3 v4 v5 : Value) (x : Nat) (st : List Value) (h : mr_h) (Q : Option Value → mr_h → Prop), mr_wp 95 0 [.ref x, v1, v2, v3, v4, v5] st h Q = mr_wp 95 1 [.ref x, v1, v2, v3, v4, v5] (.ref x :: st) h Q) ∧
    (∀ (v0 v1 v2 v3 v4 v5 : Value) (st : List Value) (h : mr_h) (Q : Option Value → mr_h → Prop), mr_wp 95 1 [v0, v1, v2, v3, v4, v5] st h Q = mr_wp 95 2 [v0, v1, v2, v3, v4, v5] (.int (0) :: st) h Q) ∧
    (∀ (v0 v1 v2 v3 v4 v5 : Value) (a : Nat) (x : Int32) (st : List Value) (h : mr_h) (Q : Option Value → mr_h → Prop), mr_wp 95 2 [v0, v1, v2, v3, v4, v5] (.int x :: .ref a :: st) h Q = mr_pf (h.1 a) 1 5 (.int x) (fun c => mr_wp 95 5 [v0, v1, v2, v3, v4, v5] st (mr_up h a c) Q)) ∧
    (∀ (v0 v1 v2 v3 v4 v5 : Value) (st : List Value) (h : mr_h) (Q : Option Value → mr_h → Prop), mr_wp 95 5 [v0, v1, v2, v3, v4, v5] st h Q = mr_wp 95 6 [v0, v1, v2, v3, v4, v5] (.int (0) :: st) h Q) ∧
    (∀ (v0 v1 v3 v4 v5 : Value) (w2 : Int32) (x : Int32) (st : List Value) (h : mr_h) (Q : Option Value → mr_h → Prop), mr_wp 95 6 [v0, v1, .int w2, v3, v4, v5] (.int x :: st) h Q = mr_wp 95 7 [v0, v1, .int w2, .int x, v4, v5] st h Q) ∧
    (∀ (v0 v2 v3 v4 v5 : Value) (x : Nat) (st : List Value) (h : mr_h) (Q : Option Value → mr_h → Prop), mr_wp 95 8 [v0, .ref x, v2, v3, v4, v5] st h Q = mr_wp 95 9 [v0, .ref x, v2, v3, v4, v5] (.ref x :: st) h Q) ∧
    (∀ (v0 v1 v2 v3 v4 v5 : Value) (a : Nat) (st : List Value) (h : mr_h) (Q : Option Value → mr_h → Prop), mr_wp 95 9 [v0, v1, v2, v3, v4, v5] (.ref a :: st) h Q = mr_gf (h.1 a) 3 0 (fun v => mr_wp 95 12 [v0, v1, v2, v3, v4, v5] (v :: st) h Q)) ∧
    (∀ (v0 v1 v2 v3 v4 v5 : Value) (x : Int32) (y : Int32) (st : List Value) (h : mr_h) (Q : Option Value → mr_h → Prop), mr_wp 95 12 [v0, v1, v2, v3, v4, v5] (.int y :: .int x :: st) h Q = if y ≤ x then mr_wp 95 118 [v0, v1, v2, v3, v4, v5] st h Q else mr_wp 95 15 [v0, v1, v2, v3, v4, v5] st h Q) ∧
    (∀ (v0 v1 v2 v3 v4 v5 : Value) (st : List Value) (h : mr_h) (Q : Option Value → mr_h → Prop), mr_wp 95 15 [v0, v1, v2, v3, v4, v5] st h Q = mr_wp 95 16 [v0, v1, v2, v3, v4, v5] (.int (0) :: st) h Q) ∧
    (∀ (v0 v1 v2 v4 v5 : Value) (w3 : Int32) (x : Int32) (st : List Value) (h : mr_h) (Q : Option Value → mr_h → Prop), mr_wp 95 16 [v0, v1, v2, .int w3, v4, v5] (.int x :: st) h Q = mr_wp 95 18 [v0, v1, v2, .int w3, .int x, v5] st h Q) ∧
    (∀ (v0 v2 v3 v4 v5 : Value) (x : Nat) (st : List Value) (h : mr_h) (Q : Option Value → mr_h → Prop), mr_wp 95 20 [v0, .ref x, v2, v3, v4, v5] st h Q = mr_wp 95 21 [v0, .ref x, v2, v3, v4, v5] (.ref x :: st) h Q) ∧
    (∀ (v0 v1 v2 v3 v4 v5 : Value) (a : Nat) (st : List Value) (h : mr_h) (Q : Option Value → mr_h → Prop), mr_wp 95 21 [v0, v1, v2, v3, v4, v5] (.ref a :: st) h Q = mr_gf (h.1 a) 3 0 (fun v => mr_wp 95 24 [v0, v1, v2, v3, v4, v5] (v :: st) h Q)) ∧
    (∀ (v0 v1 v2 v3 v4 v5 : Value) (x : Int32) (y : Int32) (st : List Value) (h : mr_h) (Q : Option Value → mr_h → Prop), mr_wp 95 24 [v0, v1, v2, v3, v4, v5] (.int y :: .int x :: st) h Q = if y ≤ x then mr_wp 95 112 [v0, v1, v2, v3, v4, v5] st h Q else mr_wp 95 27 [v0, v1, v2, v3, v4, v5] st h Q) ∧
    (∀ (v0 v1 v3 v4 v5 : Value) (x : Int32) (st : List Value) (h : mr_h) (Q : Option Value → mr_h → Prop), mr_wp 95 27 [v0, v1, .int x, v3, v4, v5] st h Q = mr_wp 95 28 [v0, v1, .int x, v3, v4, v5] (.int x :: st) h Q) ∧
    (∀ (v0 v1 v2 v4 v5 : Value) (x : Int32) (st : List Value) (h : mr_h) (Q : Option Value → mr_h → Prop), mr_wp 95 28 [v0, v1, v2, .int x, v4, v5] st h Q = mr_wp 95 29 [v0, v1, v2, .int x, v4, v5] (.int x :: st) h Q) ∧
    (∀ (v0 v1 v2 v3 v4 v5 : Value) (a0 : Int32) (a1 : Int32) (h : mr_h) (Q : Option Value → mr_h → Prop), mr_wp 95 29 [v0, v1, v2, v3, v4, v5] [.int a1, .int a0] h Q = mr_run 17 [.int a0, .int a1] h (fun v h' => mr_wp 95 32 [v0, v1, v2, v3, v4, v5] (v.toList ++ []) h' Q)) ∧
    (∀ (v0 v1 v2 v3 v4 v5 : Value) (x : Int32) (st : List Value) (h : mr_h) (Q : Option Value → mr_h → Prop), mr_wp 95 32 [v0, v1, v2, v3, v4, v5] (.int x :: st) h Q = if x = 0 then mr_wp 95 58 [v0, v1, v2, v3, v4, v5] st h Q else mr_wp 95 35 [v0, v1, v2, v3, v4, v5] st h Q) ∧
    (∀ (v0 v1 v3 v4 v5 : Value) (x : Int32) (st : List Value) (h : mr_h) (Q : Option Value → mr_h → Prop), mr_wp 95 35 [v0, v1, .int x, v3, v4, v5] st h Q = mr_wp 95 36 [v0, v1, .int x, v3, v4, v5] (.int x :: st) h Q) ∧
    (∀ (v0 v1 v2 v3 v5 : Value) (x : Int32) (st : List Value) (h : mr_h) (Q : Option Value → mr_h → Prop), mr_wp 95 36 [v0, v1, v2, v3, .int x, v5] st h Q = mr_wp 95 38 [v0, v1, v2, v3, .int x, v5] (.int x :: st) h Q) ∧
    (∀ (v0 v1 v2 v3 v4 v5 : Value) (a0 : Int32) (a1 : Int32) (h : mr_h) (Q : Option Value → mr_h → Prop), mr_wp 95 38 [v0, v1, v2, v3, v4, v5] [.int a1, .int a0] h Q = mr_run 17 [.int a0, .int a1] h (fun v h' => mr_wp 95 41 [v0, v1, v2, v3, v4, v5] (v.toList ++ []) h' Q)) ∧
    (∀ (v0 v1 v2 v3 v4 v5 : Value) (x : Int32) (st : List Value) (h : mr_h) (Q : Option Value → mr_h → Prop), mr_wp 95 41 [v0, v1, v2, v3, v4, v5] (.int x :: st) h Q = if x = 0 then mr_wp 95 58 [v0, v1, v2, v3, v4, v5] st h Q else mr_wp 95 44 [v0, v1, v2, v3, v4, v5] st h Q) ∧
    (∀ (v0 v2 v3 v4 v5 : Value) (x : Nat) (st : List Value) (h : mr_h) (Q : Option Value → mr_h → Prop), mr_wp 95 44 [v0, .ref x, v2, v3, v4, v5] st h Q = mr_wp 95 45 [v0, .ref x, v2, v3, v4, v5] (.ref x :: st) h Q) ∧
    (∀ (v0 v1 v2 v4 v5 : Value) (x : Int32) (st : List Value) (h : mr_h) (Q : Option Value → mr_h → Prop), mr_wp 95 45 [v0, v1, v2, .int x, v4, v5] st h Q = mr_wp 95 46 [v0, v1, v2, .int x, v4, v5] (.int x :: st) h Q) ∧
    (∀ (v0 v1 v2 v3 v5 : Value) (x : Int32) (st : List Value) (h : mr_h) (Q : Option Value → mr_h → Prop), mr_wp 95 46 [v0, v1, v2, v3, .int x, v5] st h Q = mr_wp 95 48 [v0, v1, v2, v3, .int x, v5] (.int x :: st) h Q) ∧
    (∀ (v0 v1 v2 v3 v4 v5 : Value) (a0 : Int32) (a1 : Int32) (o : Nat) (h : mr_h) (Q : Option Value → mr_h → Prop), mr_wp 95 48 [v0, v1, v2, v3, v4, v5] [.int a1, .int a0, .ref o] h Q = mr_rc (h.1 o) 3 (mr_run 38 [.ref o, .int a0, .int a1] h (fun v h' => mr_wp 95 51 [v0, v1, v2, v3, v4, v5] (v.toList ++ []) h' Q))) ∧
    (∀ (v0 v1 v2 v3 v4 v5 : Value) (x : Int32) (st : List Value) (h : mr_h) (Q : Option Value → mr_h → Prop), mr_wp 95 51 [v0, v1, v2, v3, v4, v5] (.int x :: st) h Q = if x = 0 then mr_wp 95 58 [v0, v1, v2, v3, v4, v5] st h Q else mr_wp 95 54 [v0, v1, v2, v3, v4, v5] st h Q) ∧
    (∀ (v0 v1 v2 v3 v4 v5 : Value) (st : List Value) (h : mr_h) (Q : Option Value → mr_h → Prop), mr_wp 95 54 [v0, v1, v2, v3, v4, v5] st h Q = mr_wp 95 55 [v0, v1, v2, v3, v4, v5] (.int (1) :: st) h Q) ∧
    (∀ (v0 v1 v2 v3 v4 v5 : Value) (st : List Value) (h : mr_h) (Q : Option Value → mr_h → Prop), mr_wp 95 55 [v0, v1, v2, v3, v4, v5] st h Q = mr_wp 95 59 [v0, v1, v2, v3, v4, v5] st h Q) ∧
    (∀ (v0 v1 v2 v3 v4 v5 : Value) (st : List Value) (h : mr_h) (Q : Option Value → mr_h → Prop), mr_wp 95 58 [v0, v1, v2, v3, v4, v5] st h Q = mr_wp 95 59 [v0, v1, v2, v3, v4, v5] (.int (0) :: st) h Q) ∧
    (∀ (v0 v1 v2 v3 v5 : Value) (w4 : Int32) (x : Int32) (st : List Value) (h : mr_h) (Q : Option Value → mr_h → Prop), mr_wp 95 59 [v0, v1, v2, v3, .int w4, v5] (.int x :: st) h Q = mr_wp 95 61 [v0, v1, v2, v3, .int w4, .int x] st h Q) ∧
    (∀ (v0 v1 v2 v3 v4 : Value) (x : Int32) (st : List Value) (h : mr_h) (Q : Option Value → mr_h → Prop), mr_wp 95 61 [v0, v1, v2, v3, v4, .int x] st h Q = mr_wp 95 63 [v0, v1, v2, v3, v4, .int x] (.int x :: st) h Q) ∧
    (∀ (v0 v1 v2 v3 v4 v5 : Value) (x : Int32) (st : List Value) (h : mr_h) (Q : Option Value → mr_h → Prop), mr_wp 95 63 [v0, v1, v2, v3, v4, v5] (.int x :: st) h Q = if x = 0 then mr_wp 95 106 [v0, v1, v2, v3, v4, v5] st h Q else mr_wp 95 66 [v0, v1, v2, v3, v4, v5] st h Q) ∧
    (∀ (v1 v2 v3 v4 v5 : Value) (x : Nat) (st : List Value) (h : mr_h) (Q : Option Value → mr_h → Prop), mr_wp 95 66 [.ref x, v1, v2, v3, v4, v5] st h Q = mr_wp 95 67 [.ref x, v1, v2, v3, v4, v5] (.ref x :: st) h Q) ∧
    (∀ (v0 v1 v2 v3 v4 v5 : Value) (a : Nat) (st : List Value) (h : mr_h) (Q : Option Value → mr_h → Prop), mr_wp 95 67 [v0, v1, v2, v3, v4, v5] (.ref a :: st) h Q = mr_gf (h.1 a) 1 5 (fun v => mr_wp 95 70 [v0, v1, v2, v3, v4, v5] (v :: st) h Q)) ∧
    (∀ (v0 v1 v2 v3 v4 v5 : Value) (st : List Value) (h : mr_h) (Q : Option Value → mr_h → Prop), mr_wp 95 70 [v0, v1, v2, v3, v4, v5] st h Q = mr_wp 95 72 [v0, v1, v2, v3, v4, v5] (.int (9) :: st) h Q) ∧
    (∀ (v0 v1 v2 v3 v4 v5 : Value) (x : Int32) (y : Int32) (st : List Value) (h : mr_h) (Q : Option Value → mr_h → Prop), mr_wp 95 72 [v0, v1, v2, v3, v4, v5] (.int y :: .int x :: st) h Q = if y ≤ x then mr_wp 95 106 [v0, v1, v2, v3, v4, v5] st h Q else mr_wp 95 75 [v0, v1, v2, v3, v4, v5] st h Q) ∧
    (∀ (v1 v2 v3 v4 v5 : Value) (x : Nat) (st : List Value) (h : mr_h) (Q : Option Value → mr_h → Prop), mr_wp 95 75 [.ref x, v1, v2, v3, v4, v5] st h Q = mr_wp 95 76 [.ref x, v1, v2, v3, v4, v5] (.ref x :: st) h Q) ∧
    (∀ (v0 v1 v2 v3 v4 v5 : Value) (a : Nat) (st : List Value) (h : mr_h) (Q : Option Value → mr_h → Prop), mr_wp 95 76 [v0, v1, v2, v3, v4, v5] (.ref a :: st) h Q = mr_gf (h.1 a) 1 2 (fun v => mr_wp 95 79 [v0, v1, v2, v3, v4, v5] (v :: st) h Q)) ∧
    (∀ (v1 v2 v3 v4 v5 : Value) (x : Nat) (st : List Value) (h : mr_h) (Q : Option Value → mr_h → Prop), mr_wp 95 79 [.ref x, v1, v2, v3, v4, v5] st h Q = mr_wp 95 80 [.ref x, v1, v2, v3, v4, v5] (.ref x :: st) h Q) ∧
    (∀ (v0 v1 v2 v3 v4 v5 : Value) (a : Nat) (st : List Value) (h : mr_h) (Q : Option Value → mr_h → Prop), mr_wp 95 80 [v0, v1, v2, v3, v4, v5] (.ref a :: st) h Q = mr_gf (h.1 a) 1 5 (fun v => mr_wp 95 83 [v0, v1, v2, v3, v4, v5] (v :: st) h Q)) :=
  ⟨fun v1 v2 v3 v4 v5 x st h Q => gx_one (i := .aload_n 0) (len := 1) (by decide +kernel) rfl,
   fun v0 v1 v2 v3 v4 v5 st h Q => gx_one (i := .iconst 0) (len := 1) (by decide +kernel) rfl,
   fun v0 v1 v2 v3 v4 v5 a x st h Q => gx_put (x := 29) (by decide +kernel) (by decide +kernel) ⟨rfl, Or.inl rfl⟩,
   fun v0 v1 v2 v3 v4 v5 st h Q => gx_one (i := .iconst 0) (len := 1) (by decide +kernel) rfl,
   fun v0 v1 v3 v4 v5 w2 x st h Q => gx_one (i := .istore_n 3) (len := 1) (by decide +kernel) rfl,
   fun v0 v2 v3 v4 v5 x st h Q => gx_one (i := .aload_n 1) (len := 1) (by decide +kernel) rfl,
   fun v0 v1 v2 v3 v4 v5 a st h Q => gx_get (x := 71) (by decide +kernel) (by decide +kernel),
   fun v0 v1 v2 v3 v4 v5 x y st h Q => gx_br (i := .if_icmp .ge 106) (len := 3) (c := .ge) (by decide +kernel) rfl rfl,
   fun v0 v1 v2 v3 v4 v5 st h Q => gx_one (i := .iconst 0) (len := 1) (by decide +kernel) rfl,
   fun v0 v1 v2 v4 v5 w3 x st h Q => gx_one (i := .istore 4) (len := 2) (by decide +kernel) rfl,
   fun v0 v2 v3 v4 v5 x st h Q => gx_one (i := .aload_n 1) (len := 1) (by decide +kernel) rfl,
   fun v0 v1 v2 v3 v4 v5 a st h Q => gx_get (x := 71) (by decide +kernel) (by decide +kernel),
   fun v0 v1 v2 v3 v4 v5 x y st h Q => gx_br (i := .if_icmp .ge 88) (len := 3) (c := .ge) (by decide +kernel) rfl rfl,
   fun v0 v1 v3 v4 v5 x st h Q => gx_one (i := .iload_n 2) (len := 1) (by decide +kernel) rfl,
   fun v0 v1 v2 v4 v5 x st h Q => gx_one (i := .iload_n 3) (len := 1) (by decide +kernel) rfl,
   fun v0 v1 v2 v3 v4 v5 a0 a1 h Q => gx_stat (x := 76) (t := 17) (n := 2) (by decide +kernel) (by decide +kernel) (by decide) (by decide +kernel) rfl (Or.inl (Nat.le_of_ble_eq_true rfl)) (by show _ ≤ mr_mxl 17; rw [show mr_mxl 17 = 2 from by decide +kernel]; exact Nat.le_of_ble_eq_true rfl),
   fun v0 v1 v2 v3 v4 v5 x st h Q => gx_br (i := .ifCond .eq 26) (len := 3) (c := .eq) (by decide +kernel) rfl rfl,
   fun v0 v1 v3 v4 v5 x st h Q => gx_one (i := .iload_n 2) (len := 1) (by decide +kernel) rfl,
   fun v0 v1 v2 v3 v5 x st h Q => gx_one (i := .iload 4) (len := 2) (by decide +kernel) rfl,
   fun v0 v1 v2 v3 v4 v5 a0 a1 h Q => gx_stat (x := 76) (t := 17) (n := 2) (by decide +kernel) (by decide +kernel) (by decide) (by decide +kernel) rfl (Or.inl (Nat.le_of_ble_eq_true rfl)) (by show _ ≤ mr_mxl 17; rw [show mr_mxl 17 = 2 from by decide +kernel]; exact Nat.le_of_ble_eq_true rfl),
   fun v0 v1 v2 v3 v4 v5 x st h Q => gx_br (i := .ifCond .eq 17) (len := 3) (c := .eq) (by decide +kernel) rfl rfl,
   fun v0 v2 v3 v4 v5 x st h Q => gx_one (i := .aload_n 1) (len := 1) (by decide +kernel) rfl,
   fun v0 v1 v2 v4 v5 x st h Q => gx_one (i := .iload_n 3) (len := 1) (by decide +kernel) rfl,
   fun v0 v1 v2 v3 v5 x st h Q => gx_one (i := .iload 4) (len := 2) (by decide +kernel) rfl,
   fun v0 v1 v2 v3 v4 v5 a0 a1 o h Q => gx_virt (x := 80) (n := 2) (by decide +kernel) (by decide +kernel) rfl (Or.inl (Nat.le_of_ble_eq_true rfl)) (by show _ ≤ mr_mxl 38; rw [show mr_mxl 38 = 3 from by decide +kernel]; exact Nat.le_of_ble_eq_true rfl) (by decide +kernel),
   fun v0 v1 v2 v3 v4 v5 x st h Q => gx_br (i := .ifCond .eq 7) (len := 3) (c := .eq) (by decide +kernel) rfl rfl,
   fun v0 v1 v2 v3 v4 v5 st h Q => gx_one (i := .iconst 1) (len := 1) (by decide +kernel) rfl,
   fun v0 v1 v2 v3 v4 v5 st h Q => gx_one (i := .goto 4) (len := 3) (by decide +kernel) rfl,
   fun v0 v1 v2 v3 v4 v5 st h Q => gx_one (i := .iconst 0) (len := 1) (by decide +kernel) rfl,
   fun v0 v1 v2 v3 v5 w4 x st h Q => gx_one (i := .istore 5) (len := 2) (by decide +kernel) rfl,
   fun v0 v1 v2 v3 v4 x st h Q => gx_one (i := .iload 5) (len := 2) (by decide +kernel) rfl,
   fun v0 v1 v2 v3 v4 v5 x st h Q => gx_br (i := .ifCond .eq 43) (len := 3) (c := .eq) (by decide +kernel) rfl rfl,
   fun v1 v2 v3 v4 v5 x st h Q => gx_one (i := .aload_n 0) (len := 1) (by decide +kernel) rfl,
   fun v0 v1 v2 v3 v4 v5 a st h Q => gx_get (x := 29) (by decide +kernel) (by decide +kernel),
   fun v0 v1 v2 v3 v4 v5 st h Q => gx_one (i := .bipush 9) (len := 2) (by decide +kernel) rfl,
   fun v0 v1 v2 v3 v4 v5 x y st h Q => gx_br (i := .if_icmp .ge 34) (len := 3) (c := .ge) (by decide +kernel) rfl rfl,
   fun v1 v2 v3 v4 v5 x st h Q => gx_one (i := .aload_n 0) (len := 1) (by decide +kernel) rfl,
   fun v0 v1 v2 v3 v4 v5 a st h Q => gx_get (x := 18) (by decide +kernel) (by decide +kernel),
   fun v1 v2 v3 v4 v5 x st h Q => gx_one (i := .aload_n 0) (len := 1) (by decide +kernel) rfl,
   fun v0 v1 v2 v3 v4 v5 a st h Q => gx_get (x := 29) (by decide +kernel) (by decide +kernel)⟩
theorem S_ch_takeEdges_1 : (∀ (v0 v1 v2 v4 v5 : Value) (x : Int32) (st : List Value) (h : mr_h) (Q : Option Value → mr_h → Prop), mr_wp 95 83 [v0, v1, v2, .int x, v4, v5] st h Q = mr_wp 95 84 [v0, v1, v2, .int x, v4, v5] (.int x :: st) h Q) ∧
    (∀ (v0 v1 v2 v3 v4 v5 : Value) (a : Nat) (x : Int32) (y : Int32) (st : List Value) (h : mr_h) (Q : Option Value → mr_h → Prop), mr_wp 95 84 [v0, v1, v2, v3, v4, v5] (.int y :: .int x :: .ref a :: st) h Q = mr_si (h.1 a) x y (fun c => mr_wp 95 85 [v0, v1, v2, v3, v4, v5] st (mr_up h a c) Q)) ∧
    (∀ (v1 v2 v3 v4 v5 : Value) (x : Nat) (st : List Value) (h : mr_h) (Q : Option Value → mr_h → Prop), mr_wp 95 85 [.ref x, v1, v2, v3, v4, v5] st h Q = mr_wp 95 86 [.ref x, v1, v2, v3, v4, v5] (.ref x :: st) h Q) ∧
    (∀ (v0 v1 v2 v3 v4 v5 : Value) (a : Nat) (st : List Value) (h : mr_h) (Q : Option Value → mr_h → Prop), mr_wp 95 86 [v0, v1, v2, v3, v4, v5] (.ref a :: st) h Q = mr_gf (h.1 a) 1 3 (fun v => mr_wp 95 89 [v0, v1, v2, v3, v4, v5] (v :: st) h Q)) ∧
    (∀ (v1 v2 v3 v4 v5 : Value) (x : Nat) (st : List Value) (h : mr_h) (Q : Option Value → mr_h → Prop), mr_wp 95 89 [.ref x, v1, v2, v3, v4, v5] st h Q = mr_wp 95 90 [.ref x, v1, v2, v3, v4, v5] (.ref x :: st) h Q) ∧
    (∀ (v0 v1 v2 v3 v4 v5 : Value) (a : Nat) (st : List Value) (h : mr_h) (Q : Option Value → mr_h → Prop), mr_wp 95 90 [v0, v1, v2, v3, v4, v5] (.ref a :: st) h Q = mr_gf (h.1 a) 1 5 (fun v => mr_wp 95 93 [v0, v1, v2, v3, v4, v5] (v :: st) h Q)) ∧
    (∀ (v0 v1 v2 v3 v5 : Value) (x : Int32) (st : List Value) (h : mr_h) (Q : Option Value → mr_h → Prop), mr_wp 95 93 [v0, v1, v2, v3, .int x, v5] st h Q = mr_wp 95 95 [v0, v1, v2, v3, .int x, v5] (.int x :: st) h Q) ∧
    (∀ (v0 v1 v2 v3 v4 v5 : Value) (a : Nat) (x : Int32) (y : Int32) (st : List Value) (h : mr_h) (Q : Option Value → mr_h → Prop), mr_wp 95 95 [v0, v1, v2, v3, v4, v5] (.int y :: .int x :: .ref a :: st) h Q = mr_si (h.1 a) x y (fun c => mr_wp 95 96 [v0, v1, v2, v3, v4, v5] st (mr_up h a c) Q)) ∧
    (∀ (v1 v2 v3 v4 v5 : Value) (x : Nat) (st : List Value) (h : mr_h) (Q : Option Value → mr_h → Prop), mr_wp 95 96 [.ref x, v1, v2, v3, v4, v5] st h Q = mr_wp 95 97 [.ref x, v1, v2, v3, v4, v5] (.ref x :: st) h Q) ∧
    (∀ (v0 v1 v2 v3 v4 v5 : Value) (x : Nat) (st : List Value) (h : mr_h) (Q : Option Value → mr_h → Prop), mr_wp 95 97 [v0, v1, v2, v3, v4, v5] (.ref x :: st) h Q = mr_wp 95 98 [v0, v1, v2, v3, v4, v5] (.ref x :: .ref x :: st) h Q) ∧
    (∀ (v0 v1 v2 v3 v4 v5 : Value) (a : Nat) (st : List Value) (h : mr_h) (Q : Option Value → mr_h → Prop), mr_wp 95 98 [v0, v1, v2, v3, v4, v5] (.ref a :: st) h Q = mr_gf (h.1 a) 1 5 (fun v => mr_wp 95 101 [v0, v1, v2, v3, v4, v5] (v :: st) h Q)) ∧
    (∀ (v0 v1 v2 v3 v4 v5 : Value) (st : List Value) (h : mr_h) (Q : Option Value → mr_h → Prop), mr_wp 95 101 [v0, v1, v2, v3, v4, v5] st h Q = mr_wp 95 102 [v0, v1, v2, v3, v4, v5] (.int (1) :: st) h Q) ∧
    (∀ (v0 v1 v2 v3 v4 v5 : Value) (x : Int32) (y : Int32) (st : List Value) (h : mr_h) (Q : Option Value → mr_h → Prop), mr_wp 95 102 [v0, v1, v2, v3, v4, v5] (.int y :: .int x :: st) h Q = mr_wp 95 103 [v0, v1, v2, v3, v4, v5] (.int (x + y) :: st) h Q) ∧
    (∀ (v0 v1 v2 v3 v4 v5 : Value) (a : Nat) (x : Int32) (st : List Value) (h : mr_h) (Q : Option Value → mr_h → Prop), mr_wp 95 103 [v0, v1, v2, v3, v4, v5] (.int x :: .ref a :: st) h Q = mr_pf (h.1 a) 1 5 (.int x) (fun c => mr_wp 95 106 [v0, v1, v2, v3, v4, v5] st (mr_up h a c) Q)) ∧
    (∀ (v0 v1 v2 v5 : Value) (x : Int32) (w3 : Int32) (st : List Value) (h : mr_h) (Q : Option Value → mr_h → Prop), mr_wp 95 106 [v0, v1, v2, .int w3, .int x, v5] st h Q = mr_wp 95 109 [v0, v1, v2, .int w3, .int (x + (1)), v5] st h Q) ∧
    (∀ (v0 v1 v2 v3 v4 v5 : Value) (st : List Value) (h : mr_h) (Q : Option Value → mr_h → Prop), mr_wp 95 109 [v0, v1, v2, v3, v4, v5] st h Q = mr_wp 95 18 [v0, v1, v2, v3, v4, v5] st h Q) ∧
    (∀ (v0 v1 v4 v5 : Value) (x : Int32) (w2 : Int32) (st : List Value) (h : mr_h) (Q : Option Value → mr_h → Prop), mr_wp 95 112 [v0, v1, .int w2, .int x, v4, v5] st h Q = mr_wp 95 115 [v0, v1, .int w2, .int (x + (1)), v4, v5] st h Q) ∧
    (∀ (v0 v1 v2 v3 v4 v5 : Value) (st : List Value) (h : mr_h) (Q : Option Value → mr_h → Prop), mr_wp 95 115 [v0, v1, v2, v3, v4, v5] st h Q = mr_wp 95 7 [v0, v1, v2, v3, v4, v5] st h Q) ∧
    (∀ (v0 v1 v2 v3 v4 v5 : Value) (h : mr_h) (Q : Option Value → mr_h → Prop), mr_wp 95 118 [v0, v1, v2, v3, v4, v5] [] h Q = Q none h) :=
  ⟨fun v0 v1 v2 v4 v5 x st h Q => gx_one (i := .iload_n 3) (len := 1) (by decide +kernel) rfl,
   fun v0 v1 v2 v3 v4 v5 a x y st h Q => gx_iast (by decide +kernel),
   fun v1 v2 v3 v4 v5 x st h Q => gx_one (i := .aload_n 0) (len := 1) (by decide +kernel) rfl,
   fun v0 v1 v2 v3 v4 v5 a st h Q => gx_get (x := 22) (by decide +kernel) (by decide +kernel),
   fun v1 v2 v3 v4 v5 x st h Q => gx_one (i := .aload_n 0) (len := 1) (by decide +kernel) rfl,
   fun v0 v1 v2 v3 v4 v5 a st h Q => gx_get (x := 29) (by decide +kernel) (by decide +kernel),
   fun v0 v1 v2 v3 v5 x st h Q => gx_one (i := .iload 4) (len := 2) (by decide +kernel) rfl,
   fun v0 v1 v2 v3 v4 v5 a x y st h Q => gx_iast (by decide +kernel),
   fun v1 v2 v3 v4 v5 x st h Q => gx_one (i := .aload_n 0) (len := 1) (by decide +kernel) rfl,
   fun v0 v1 v2 v3 v4 v5 x st h Q => gx_one (i := .dup) (len := 1) (by decide +kernel) rfl,
   fun v0 v1 v2 v3 v4 v5 a st h Q => gx_get (x := 29) (by decide +kernel) (by decide +kernel),
   fun v0 v1 v2 v3 v4 v5 st h Q => gx_one (i := .iconst 1) (len := 1) (by decide +kernel) rfl,
   fun v0 v1 v2 v3 v4 v5 x y st h Q => gx_one (i := .iadd) (len := 1) (by decide +kernel) rfl,
   fun v0 v1 v2 v3 v4 v5 a x st h Q => gx_put (x := 29) (by decide +kernel) (by decide +kernel) ⟨rfl, Or.inl rfl⟩,
   fun v0 v1 v2 v5 x w3 st h Q => gx_one (i := .iinc 4 1) (len := 3) (by decide +kernel) rfl,
   fun v0 v1 v2 v3 v4 v5 st h Q => gx_one (i := .goto (-91)) (len := 3) (by decide +kernel) rfl,
   fun v0 v1 v4 v5 x w2 st h Q => gx_one (i := .iinc 3 1) (len := 3) (by decide +kernel) rfl,
   fun v0 v1 v2 v3 v4 v5 st h Q => gx_one (i := .goto (-108)) (len := 3) (by decide +kernel) rfl,
   fun v0 v1 v2 v3 v4 v5 h Q => gx_ret (i := .return_) (len := 1) (by decide +kernel) rfl rfl (by simp only [mr_rt, if_pos]; rw [if_pos (by decide +kernel)])⟩

theorem s_ch_weighCounts_2 (v0 v1 : Value) (x : Int32) (st : List Value) (h : mr_h) (Q : Option Value → mr_h → Prop) : mr_wp 96 2 [v0, v1, .int x] st h Q = mr_wp 96 3 [v0, v1, .int x] (.int x :: st) h Q := gx_one (i := .iload_n 2) (len := 1) (by decide +kernel) rfl
theorem S_ch_weighCounts : (∀ (v0 v1 v2 : Value) (st : List Value) (h : mr_h) (Q : Option Value → mr_h → Prop), mr_wp 96 0 [v0, v1, v2] st h Q = mr_wp 96 1 [v0, v1, v2] (.int (0) :: st) h Q) ∧
    (∀ (v0 v2 : Value) (w1 : Int32) (x : Int32) (st : List Value) (h : mr_h) (Q : Option Value → mr_h → Prop), mr_wp 96 1 [v0, .int w1, v2] (.int x :: st) h Q = mr_wp 96 2 [v0, .int w1, .int x] st h Q) ∧
    (∀ (v1 v2 : Value) (x : Nat) (st : List Value) (h : mr_h) (Q : Option Value → mr_h → Prop), mr_wp 96 3 [.ref x, v1, v2] st h Q = mr_wp 96 4 [.ref x, v1, v2] (.ref x :: st) h Q) ∧
    (∀ (v0 v1 v2 : Value) (a : Nat) (st : List Value) (h : mr_h) (Q : Option Value → mr_h → Prop), mr_wp 96 4 [v0, v1, v2] (.ref a :: st) h Q = mr_gf (h.1 a) 1 5 (fun v => mr_wp 96 7 [v0, v1, v2] (v :: st) h Q)) ∧
    (∀ (v0 v1 v2 : Value) (x : Int32) (y : Int32) (st : List Value) (h : mr_h) (Q : Option Value → mr_h → Prop), mr_wp 96 7 [v0, v1, v2] (.int y :: .int x :: st) h Q = if y < x then mr_wp 96 43 [v0, v1, v2] st h Q else mr_wp 96 10 [v0, v1, v2] st h Q) ∧
    (∀ (v1 v2 : Value) (x : Nat) (st : List Value) (h : mr_h) (Q : Option Value → mr_h → Prop), mr_wp 96 10 [.ref x, v1, v2] st h Q = mr_wp 96 11 [.ref x, v1, v2] (.ref x :: st) h Q) ∧
    (∀ (v0 v1 v2 : Value) (a : Nat) (st : List Value) (h : mr_h) (Q : Option Value → mr_h → Prop), mr_wp 96 11 [v0, v1, v2] (.ref a :: st) h Q = mr_gf (h.1 a) 1 4 (fun v => mr_wp 96 14 [v0, v1, v2] (v :: st) h Q)) ∧
    (∀ (v0 v1 : Value) (x : Int32) (st : List Value) (h : mr_h) (Q : Option Value → mr_h → Prop), mr_wp 96 14 [v0, v1, .int x] st h Q = mr_wp 96 15 [v0, v1, .int x] (.int x :: st) h Q) ∧
    (∀ (v0 v1 v2 : Value) (st : List Value) (h : mr_h) (Q : Option Value → mr_h → Prop), mr_wp 96 15 [v0, v1, v2] st h Q = mr_wp 96 17 [v0, v1, v2] (.int (10) :: st) h Q) ∧
    (∀ (v0 v2 : Value) (x : Int32) (st : List Value) (h : mr_h) (Q : Option Value → mr_h → Prop), mr_wp 96 17 [v0, .int x, v2] st h Q = mr_wp 96 18 [v0, .int x, v2] (.int x :: st) h Q) ∧
    (∀ (v0 v1 v2 : Value) (x : Int32) (y : Int32) (st : List Value) (h : mr_h) (Q : Option Value → mr_h → Prop), mr_wp 96 18 [v0, v1, v2] (.int y :: .int x :: st) h Q = mr_wp 96 19 [v0, v1, v2] (.int (x - y) :: st) h Q) ∧
    (∀ (v0 v1 v2 : Value) (x : Int32) (st : List Value) (h : mr_h) (Q : Option Value → mr_h → Prop), mr_wp 96 19 [v0, v1, v2] (.int x :: st) h Q = mr_wp 96 20 [v0, v1, v2] (.long x.toInt64 :: st) h Q) ∧
    (∀ (v0 v1 : Value) (x : Int32) (st : List Value) (h : mr_h) (Q : Option Value → mr_h → Prop), mr_wp 96 20 [v0, v1, .int x] st h Q = mr_wp 96 21 [v0, v1, .int x] (.int x :: st) h Q) ∧
    (∀ (v0 v1 v2 : Value) (a0 : Int64) (a1 : Int32) (r0 : Value) (r1 : Value) (h : mr_h) (Q : Option Value → mr_h → Prop), mr_wp 96 21 [v0, v1, v2] [.int a1, .long a0, r0, r1] h Q = mr_run 97 [.long a0, .int a1] h (fun v h' => mr_wp 96 24 [v0, v1, v2] (v.toList ++ [r0, r1]) h' Q)) ∧
    (∀ (v0 v2 : Value) (x : Int32) (st : List Value) (h : mr_h) (Q : Option Value → mr_h → Prop), mr_wp 96 24 [v0, .int x, v2] st h Q = mr_wp 96 25 [v0, .int x, v2] (.int x :: st) h Q) ∧
    (∀ (v0 v1 v2 : Value) (x : Int32) (st : List Value) (h : mr_h) (Q : Option Value → mr_h → Prop), mr_wp 96 25 [v0, v1, v2] (.int x :: st) h Q = mr_wp 96 26 [v0, v1, v2] (.long x.toInt64 :: st) h Q) ∧
    (∀ (v1 v2 : Value) (x : Nat) (st : List Value) (h : mr_h) (Q : Option Value → mr_h → Prop), mr_wp 96 26 [.ref x, v1, v2] st h Q = mr_wp 96 27 [.ref x, v1, v2] (.ref x :: st) h Q) ∧
    (∀ (v0 v1 v2 : Value) (a : Nat) (st : List Value) (h : mr_h) (Q : Option Value → mr_h → Prop), mr_wp 96 27 [v0, v1, v2] (.ref a :: st) h Q = mr_gf (h.1 a) 1 5 (fun v => mr_wp 96 30 [v0, v1, v2] (v :: st) h Q)) ∧
    (∀ (v0 v1 : Value) (x : Int32) (st : List Value) (h : mr_h) (Q : Option Value → mr_h → Prop), mr_wp 96 30 [v0, v1, .int x] st h Q = mr_wp 96 31 [v0, v1, .int x] (.int x :: st) h Q) ∧
    (∀ (v0 v1 v2 : Value) (x : Int32) (y : Int32) (st : List Value) (h : mr_h) (Q : Option Value → mr_h → Prop), mr_wp 96 31 [v0, v1, v2] (.int y :: .int x :: st) h Q = mr_wp 96 32 [v0, v1, v2] (.int (x - y) :: st) h Q) ∧
    (∀ (v0 v1 v2 : Value) (a0 : Int64) (a1 : Int32) (r0 : Value) (r1 : Value) (r2 : Value) (h : mr_h) (Q : Option Value → mr_h → Prop), mr_wp 96 32 [v0, v1, v2] [.int a1, .long a0, r0, r1, r2] h Q = mr_run 97 [.long a0, .int a1] h (fun v h' => mr_wp 96 35 [v0, v1, v2] (v.toList ++ [r0, r1, r2]) h' Q)) ∧
    (∀ (v0 v1 v2 : Value) (x : Int64) (y : Int64) (st : List Value) (h : mr_h) (Q : Option Value → mr_h → Prop), mr_wp 96 35 [v0, v1, v2] (.long y :: .long x :: st) h Q = mr_wp 96 36 [v0, v1, v2] (.long (x * y) :: st) h Q) ∧
    (∀ (v0 v1 v2 : Value) (a : Nat) (x : Int32) (y : Int64) (st : List Value) (h : mr_h) (Q : Option Value → mr_h → Prop), mr_wp 96 36 [v0, v1, v2] (.long y :: .int x :: .ref a :: st) h Q = mr_sj (h.1 a) x y (fun c => mr_wp 96 37 [v0, v1, v2] st (mr_up h a c) Q)) ∧
    (∀ (v0 : Value) (x : Int32) (w1 : Int32) (st : List Value) (h : mr_h) (Q : Option Value → mr_h → Prop), mr_wp 96 37 [v0, .int w1, .int x] st h Q = mr_wp 96 40 [v0, .int w1, .int (x + (1))] st h Q) ∧
    (∀ (v0 v1 v2 : Value) (st : List Value) (h : mr_h) (Q : Option Value → mr_h → Prop), mr_wp 96 40 [v0, v1, v2] st h Q = mr_wp 96 2 [v0, v1, v2] st h Q) ∧
    (∀ (v0 v1 v2 : Value) (h : mr_h) (Q : Option Value → mr_h → Prop), mr_wp 96 43 [v0, v1, v2] [] h Q = Q none h) :=
  ⟨fun v0 v1 v2 st h Q => gx_one (i := .iconst 0) (len := 1) (by decide +kernel) rfl,
   fun v0 v2 w1 x st h Q => gx_one (i := .istore_n 2) (len := 1) (by decide +kernel) rfl,
   fun v1 v2 x st h Q => gx_one (i := .aload_n 0) (len := 1) (by decide +kernel) rfl,
   fun v0 v1 v2 a st h Q => gx_get (x := 29) (by decide +kernel) (by decide +kernel),
   fun v0 v1 v2 x y st h Q => gx_br (i := .if_icmp .gt 36) (len := 3) (c := .gt) (by decide +kernel) rfl rfl,
   fun v1 v2 x st h Q => gx_one (i := .aload_n 0) (len := 1) (by decide +kernel) rfl,
   fun v0 v1 v2 a st h Q => gx_get (x := 25) (by decide +kernel) (by decide +kernel),
   fun v0 v1 x st h Q => gx_one (i := .iload_n 2) (len := 1) (by decide +kernel) rfl,
   fun v0 v1 v2 st h Q => gx_one (i := .bipush 10) (len := 2) (by decide +kernel) rfl,
   fun v0 v2 x st h Q => gx_one (i := .iload_n 1) (len := 1) (by decide +kernel) rfl,
   fun v0 v1 v2 x y st h Q => gx_one (i := .isub) (len := 1) (by decide +kernel) rfl,
   fun v0 v1 v2 x st h Q => gx_one (i := .i2l) (len := 1) (by decide +kernel) rfl,
   fun v0 v1 x st h Q => gx_one (i := .iload_n 2) (len := 1) (by decide +kernel) rfl,
   fun v0 v1 v2 a0 a1 r0 r1 h Q => gx_stat (x := 64) (t := 97) (n := 2) (by decide +kernel) (by decide +kernel) (by decide) (by decide +kernel) rfl (Or.inl (Nat.le_of_ble_eq_true rfl)) (by show _ ≤ mr_mxl 97; rw [show mr_mxl 97 = 6 from by decide +kernel]; exact Nat.le_of_ble_eq_true rfl),
   fun v0 v2 x st h Q => gx_one (i := .iload_n 1) (len := 1) (by decide +kernel) rfl,
   fun v0 v1 v2 x st h Q => gx_one (i := .i2l) (len := 1) (by decide +kernel) rfl,
   fun v1 v2 x st h Q => gx_one (i := .aload_n 0) (len := 1) (by decide +kernel) rfl,
   fun v0 v1 v2 a st h Q => gx_get (x := 29) (by decide +kernel) (by decide +kernel),
   fun v0 v1 x st h Q => gx_one (i := .iload_n 2) (len := 1) (by decide +kernel) rfl,
   fun v0 v1 v2 x y st h Q => gx_one (i := .isub) (len := 1) (by decide +kernel) rfl,
   fun v0 v1 v2 a0 a1 r0 r1 r2 h Q => gx_stat (x := 64) (t := 97) (n := 2) (by decide +kernel) (by decide +kernel) (by decide) (by decide +kernel) rfl (Or.inl (Nat.le_of_ble_eq_true rfl)) (by show _ ≤ mr_mxl 97; rw [show mr_mxl 97 = 6 from by decide +kernel]; exact Nat.le_of_ble_eq_true rfl),
   fun v0 v1 v2 x y st h Q => gx_one (i := .lmul) (len := 1) (by decide +kernel) rfl,
   fun v0 v1 v2 a x y st h Q => gx_last (by decide +kernel),
   fun v0 x w1 st h Q => gx_one (i := .iinc 2 1) (len := 3) (by decide +kernel) rfl,
   fun v0 v1 v2 st h Q => gx_one (i := .goto (-38)) (len := 3) (by decide +kernel) rfl,
   fun v0 v1 v2 h Q => gx_ret (i := .return_) (len := 1) (by decide +kernel) rfl rfl (by simp only [mr_rt, if_pos]; rw [if_pos (by decide +kernel)])⟩
theorem s_ch_power_5 (v0 v1 v2 v3 v4 : Value) (x : Int32) (st : List Value) (h : mr_h) (Q : Option Value → mr_h → Prop) : mr_wp 97 5 [v0, v1, v2, v3, v4, .int x] st h Q = mr_wp 97 7 [v0, v1, v2, v3, v4, .int x] (.int x :: st) h Q := gx_one (i := .iload 5) (len := 2) (by decide +kernel) rfl
theorem S_ch_power : (∀ (v0 v1 v2 v3 v4 v5 : Value) (st : List Value) (h : mr_h) (Q : Option Value → mr_h → Prop), mr_wp 97 0 [v0, v1, v2, v3, v4, v5] st h Q = mr_wp 97 1 [v0, v1, v2, v3, v4, v5] (.long (1) :: st) h Q) ∧
    (∀ (v0 v1 v3 v4 v5 : Value) (w2 : Int32) (x : Int64) (st : List Value) (h : mr_h) (Q : Option Value → mr_h → Prop), mr_wp 97 1 [v0, v1, .int w2, v3, v4, v5] (.long x :: st) h Q = mr_wp 97 2 [v0, v1, .int w2, .long x, .null, v5] st h Q) ∧
    (∀ (v0 v1 v2 v3 v4 v5 : Value) (st : List Value) (h : mr_h) (Q : Option Value → mr_h → Prop), mr_wp 97 2 [v0, v1, v2, v3, v4, v5] st h Q = mr_wp 97 3 [v0, v1, v2, v3, v4, v5] (.int (0) :: st) h Q) ∧
    (∀ (v0 v1 v2 v3 v5 : Value) (x : Int32) (st : List Value) (h : mr_h) (Q : Option Value → mr_h → Prop), mr_wp 97 3 [v0, v1, v2, v3, .null, v5] (.int x :: st) h Q = mr_wp 97 5 [v0, v1, v2, v3, .null, .int x] st h Q) ∧
    (∀ (v0 v1 v3 v4 v5 : Value) (x : Int32) (st : List Value) (h : mr_h) (Q : Option Value → mr_h → Prop), mr_wp 97 7 [v0, v1, .int x, v3, v4, v5] st h Q = mr_wp 97 8 [v0, v1, .int x, v3, v4, v5] (.int x :: st) h Q) ∧
    (∀ (v0 v1 v2 v3 v4 v5 : Value) (x : Int32) (y : Int32) (st : List Value) (h : mr_h) (Q : Option Value → mr_h → Prop), mr_wp 97 8 [v0, v1, v2, v3, v4, v5] (.int y :: .int x :: st) h Q = if y ≤ x then mr_wp 97 21 [v0, v1, v2, v3, v4, v5] st h Q else mr_wp 97 11 [v0, v1, v2, v3, v4, v5] st h Q) ∧
    (∀ (v0 v1 v2 v4 v5 : Value) (x : Int64) (st : List Value) (h : mr_h) (Q : Option Value → mr_h → Prop), mr_wp 97 11 [v0, v1, v2, .long x, v4, v5] st h Q = mr_wp 97 12 [v0, v1, v2, .long x, v4, v5] (.long x :: st) h Q) ∧
    (∀ (v1 v2 v3 v4 v5 : Value) (x : Int64) (st : List Value) (h : mr_h) (Q : Option Value → mr_h → Prop), mr_wp 97 12 [.long x, v1, v2, v3, v4, v5] st h Q = mr_wp 97 13 [.long x, v1, v2, v3, v4, v5] (.long x :: st) h Q) ∧
    (∀ (v0 v1 v2 v3 v4 v5 : Value) (x : Int64) (y : Int64) (st : List Value) (h : mr_h) (Q : Option Value → mr_h → Prop), mr_wp 97 13 [v0, v1, v2, v3, v4, v5] (.long y :: .long x :: st) h Q = mr_wp 97 14 [v0, v1, v2, v3, v4, v5] (.long (x * y) :: st) h Q) ∧
    (∀ (v0 v1 v3 v4 v5 : Value) (w2 : Int32) (x : Int64) (st : List Value) (h : mr_h) (Q : Option Value → mr_h → Prop), mr_wp 97 14 [v0, v1, .int w2, v3, v4, v5] (.long x :: st) h Q = mr_wp 97 15 [v0, v1, .int w2, .long x, .null, v5] st h Q) ∧
    (∀ (v0 v1 v2 v3 : Value) (x : Int32) (st : List Value) (h : mr_h) (Q : Option Value → mr_h → Prop), mr_wp 97 15 [v0, v1, v2, v3, .null, .int x] st h Q = mr_wp 97 18 [v0, v1, v2, v3, .null, .int (x + (1))] st h Q) ∧
    (∀ (v0 v1 v2 v3 v4 v5 : Value) (st : List Value) (h : mr_h) (Q : Option Value → mr_h → Prop), mr_wp 97 18 [v0, v1, v2, v3, v4, v5] st h Q = mr_wp 97 5 [v0, v1, v2, v3, v4, v5] st h Q) ∧
    (∀ (v0 v1 v2 v4 v5 : Value) (x : Int64) (st : List Value) (h : mr_h) (Q : Option Value → mr_h → Prop), mr_wp 97 21 [v0, v1, v2, .long x, v4, v5] st h Q = mr_wp 97 22 [v0, v1, v2, .long x, v4, v5] (.long x :: st) h Q) ∧
    (∀ (v0 v1 v2 v3 v4 v5 : Value) (x : Int64) (h : mr_h) (Q : Option Value → mr_h → Prop), mr_wp 97 22 [v0, v1, v2, v3, v4, v5] [.long x] h Q = Q (some (.long x)) h) :=
  ⟨fun v0 v1 v2 v3 v4 v5 st h Q => gx_one (i := .lconst 1) (len := 1) (by decide +kernel) rfl,
   fun v0 v1 v3 v4 v5 w2 x st h Q => gx_one (i := .lstore_n 3) (len := 1) (by decide +kernel) rfl,
   fun v0 v1 v2 v3 v4 v5 st h Q => gx_one (i := .iconst 0) (len := 1) (by decide +kernel) rfl,
   fun v0 v1 v2 v3 v5 x st h Q => gx_one (i := .istore 5) (len := 2) (by decide +kernel) rfl,
   fun v0 v1 v3 v4 v5 x st h Q => gx_one (i := .iload_n 2) (len := 1) (by decide +kernel) rfl,
   fun v0 v1 v2 v3 v4 v5 x y st h Q => gx_br (i := .if_icmp .ge 13) (len := 3) (c := .ge) (by decide +kernel) rfl rfl,
   fun v0 v1 v2 v4 v5 x st h Q => gx_one (i := .lload_n 3) (len := 1) (by decide +kernel) rfl,
   fun v1 v2 v3 v4 v5 x st h Q => gx_one (i := .lload_n 0) (len := 1) (by decide +kernel) rfl,
   fun v0 v1 v2 v3 v4 v5 x y st h Q => gx_one (i := .lmul) (len := 1) (by decide +kernel) rfl,
   fun v0 v1 v3 v4 v5 w2 x st h Q => gx_one (i := .lstore_n 3) (len := 1) (by decide +kernel) rfl,
   fun v0 v1 v2 v3 x st h Q => gx_one (i := .iinc 5 1) (len := 3) (by decide +kernel) rfl,
   fun v0 v1 v2 v3 v4 v5 st h Q => gx_one (i := .goto (-13)) (len := 3) (by decide +kernel) rfl,
   fun v0 v1 v2 v4 v5 x st h Q => gx_one (i := .lload_n 3) (len := 1) (by decide +kernel) rfl,
   fun v0 v1 v2 v3 v4 v5 x h Q => gx_ret (i := .lreturn) (len := 1) (by decide +kernel) rfl rfl (by simp only [mr_rt, if_pos]; rw [if_pos (by decide +kernel)])⟩
theorem s_ch_arrives_9 (v0 v1 v2 v3 v4 v6 v7 : Value) (x : Int32) (st : List Value) (h : mr_h) (Q : Option Value → mr_h → Prop) : mr_wp 98 9 [v0, v1, v2, v3, v4, .int x, v6, v7] st h Q = mr_wp 98 11 [v0, v1, v2, v3, v4, .int x, v6, v7] (.int x :: st) h Q := gx_one (i := .iload 5) (len := 2) (by decide +kernel) rfl
theorem s_ch_arrives_34 (v0 v1 v2 v3 v4 v5 v6 : Value) (x : Int32) (st : List Value) (h : mr_h) (Q : Option Value → mr_h → Prop) : mr_wp 98 34 [v0, v1, v2, v3, v4, v5, v6, .int x] st h Q = mr_wp 98 36 [v0, v1, v2, v3, v4, v5, v6, .int x] (.int x :: st) h Q := gx_one (i := .iload 7) (len := 2) (by decide +kernel) rfl
theorem S_ch_arrives_0 : (∀ (v0 v1 v3 v4 v5 v6 v7 : Value) (x : Int32) (st : List Value) (h : mr_h) (Q : Option Value → mr_h → Prop), mr_wp 98 0 [v0, v1, .int x, v3, v4, v5, v6, v7] st h Q = mr_wp 98 1 [v0, v1, .int x, v3, v4, v5, v6, v7] (.int x :: st) h Q) ∧
    (∀ (v0 v1 v2 v3 v4 v5 v6 v7 : Value) (a0 : Int32) (h : mr_h) (Q : Option Value → mr_h → Prop), mr_wp 98 1 [v0, v1, v2, v3, v4, v5, v6, v7] [.int a0] h Q = mr_run 16 [.int a0] h (fun v h' => mr_wp 98 4 [v0, v1, v2, v3, v4, v5, v6, v7] (v.toList ++ []) h' Q)) ∧
    (∀ (v0 v1 v2 v4 v5 v6 v7 : Value) (w3 : Int32) (x : Int32) (st : List Value) (h : mr_h) (Q : Option Value → mr_h → Prop), mr_wp 98 4 [v0, v1, v2, .int w3, v4, v5, v6, v7] (.int x :: st) h Q = mr_wp 98 6 [v0, v1, v2, .int w3, .int x, v5, v6, v7] st h Q) ∧
    (∀ (v0 v1 v2 v3 v4 v5 v6 v7 : Value) (st : List Value) (h : mr_h) (Q : Option Value → mr_h → Prop), mr_wp 98 6 [v0, v1, v2, v3, v4, v5, v6, v7] st h Q = mr_wp 98 7 [v0, v1, v2, v3, v4, v5, v6, v7] (.int (0) :: st) h Q) ∧
    (∀ (v0 v1 v2 v3 v5 v6 v7 : Value) (w4 : Int32) (x : Int32) (st : List Value) (h : mr_h) (Q : Option Value → mr_h → Prop), mr_wp 98 7 [v0, v1, v2, v3, .int w4, v5, v6, v7] (.int x :: st) h Q = mr_wp 98 9 [v0, v1, v2, v3, .int w4, .int x, v6, v7] st h Q) ∧
    (∀ (v1 v2 v3 v4 v5 v6 v7 : Value) (x : Nat) (st : List Value) (h : mr_h) (Q : Option Value → mr_h → Prop), mr_wp 98 11 [.ref x, v1, v2, v3, v4, v5, v6, v7] st h Q = mr_wp 98 12 [.ref x, v1, v2, v3, v4, v5, v6, v7] (.ref x :: st) h Q) ∧
    (∀ (v0 v1 v2 v3 v4 v5 v6 v7 : Value) (a : Nat) (st : List Value) (h : mr_h) (Q : Option Value → mr_h → Prop), mr_wp 98 12 [v0, v1, v2, v3, v4, v5, v6, v7] (.ref a :: st) h Q = mr_gf (h.1 a) 1 5 (fun v => mr_wp 98 15 [v0, v1, v2, v3, v4, v5, v6, v7] (v :: st) h Q)) ∧
    (∀ (v0 v1 v2 v3 v4 v5 v6 v7 : Value) (x : Int32) (y : Int32) (st : List Value) (h : mr_h) (Q : Option Value → mr_h → Prop), mr_wp 98 15 [v0, v1, v2, v3, v4, v5, v6, v7] (.int y :: .int x :: st) h Q = if y < x then mr_wp 98 104 [v0, v1, v2, v3, v4, v5, v6, v7] st h Q else mr_wp 98 18 [v0, v1, v2, v3, v4, v5, v6, v7] st h Q) ∧
    (∀ (v0 v1 v2 v3 v5 v6 v7 : Value) (x : Int32) (st : List Value) (h : mr_h) (Q : Option Value → mr_h → Prop), mr_wp 98 18 [v0, v1, v2, v3, .int x, v5, v6, v7] st h Q = mr_wp 98 20 [v0, v1, v2, v3, .int x, v5, v6, v7] (.int x :: st) h Q) ∧
    (∀ (v0 v1 v2 v4 v5 v6 v7 : Value) (x : Int32) (st : List Value) (h : mr_h) (Q : Option Value → mr_h → Prop), mr_wp 98 20 [v0, v1, v2, .int x, v4, v5, v6, v7] st h Q = mr_wp 98 21 [v0, v1, v2, .int x, v4, v5, v6, v7] (.int x :: st) h Q) ∧
    (∀ (v0 v1 v2 v3 v4 v5 v6 v7 : Value) (a0 : Int32) (a1 : Int32) (h : mr_h) (Q : Option Value → mr_h → Prop), mr_wp 98 21 [v0, v1, v2, v3, v4, v5, v6, v7] [.int a1, .int a0] h Q = mr_run 17 [.int a0, .int a1] h (fun v h' => mr_wp 98 24 [v0, v1, v2, v3, v4, v5, v6, v7] (v.toList ++ []) h' Q)) ∧
    (∀ (v0 v1 v2 v3 v4 v5 v6 v7 : Value) (x : Int32) (st : List Value) (h : mr_h) (Q : Option Value → mr_h → Prop), mr_wp 98 24 [v0, v1, v2, v3, v4, v5, v6, v7] (.int x :: st) h Q = if ¬ x = 0 then mr_wp 98 104 [v0, v1, v2, v3, v4, v5, v6, v7] st h Q else mr_wp 98 27 [v0, v1, v2, v3, v4, v5, v6, v7] st h Q) ∧
    (∀ (v0 v1 v2 v3 v5 v6 v7 : Value) (x : Int32) (st : List Value) (h : mr_h) (Q : Option Value → mr_h → Prop), mr_wp 98 27 [v0, v1, v2, v3, .int x, v5, v6, v7] st h Q = mr_wp 98 29 [v0, v1, v2, v3, .int x, v5, v6, v7] (.int x :: st) h Q) ∧
    (∀ (v0 v1 v2 v3 v4 v6 v7 : Value) (w5 : Int32) (x : Int32) (st : List Value) (h : mr_h) (Q : Option Value → mr_h → Prop), mr_wp 98 29 [v0, v1, v2, v3, v4, .int w5, v6, v7] (.int x :: st) h Q = mr_wp 98 31 [v0, v1, v2, v3, v4, .int w5, .int x, v7] st h Q) ∧
    (∀ (v0 v1 v2 v3 v4 v5 v6 v7 : Value) (st : List Value) (h : mr_h) (Q : Option Value → mr_h → Prop), mr_wp 98 31 [v0, v1, v2, v3, v4, v5, v6, v7] st h Q = mr_wp 98 32 [v0, v1, v2, v3, v4, v5, v6, v7] (.int (0) :: st) h Q) ∧
    (∀ (v0 v1 v2 v3 v4 v5 v7 : Value) (w6 : Int32) (x : Int32) (st : List Value) (h : mr_h) (Q : Option Value → mr_h → Prop), mr_wp 98 32 [v0, v1, v2, v3, v4, v5, .int w6, v7] (.int x :: st) h Q = mr_wp 98 34 [v0, v1, v2, v3, v4, v5, .int w6, .int x] st h Q) ∧
    (∀ (v1 v2 v3 v4 v5 v6 v7 : Value) (x : Nat) (st : List Value) (h : mr_h) (Q : Option Value → mr_h → Prop), mr_wp 98 36 [.ref x, v1, v2, v3, v4, v5, v6, v7] st h Q = mr_wp 98 37 [.ref x, v1, v2, v3, v4, v5, v6, v7] (.ref x :: st) h Q) ∧
    (∀ (v0 v1 v2 v3 v4 v5 v6 v7 : Value) (a : Nat) (st : List Value) (h : mr_h) (Q : Option Value → mr_h → Prop), mr_wp 98 37 [v0, v1, v2, v3, v4, v5, v6, v7] (.ref a :: st) h Q = mr_gf (h.1 a) 1 5 (fun v => mr_wp 98 40 [v0, v1, v2, v3, v4, v5, v6, v7] (v :: st) h Q)) ∧
    (∀ (v0 v1 v2 v3 v4 v5 v6 v7 : Value) (x : Int32) (y : Int32) (st : List Value) (h : mr_h) (Q : Option Value → mr_h → Prop), mr_wp 98 40 [v0, v1, v2, v3, v4, v5, v6, v7] (.int y :: .int x :: st) h Q = if y ≤ x then mr_wp 98 88 [v0, v1, v2, v3, v4, v5, v6, v7] st h Q else mr_wp 98 43 [v0, v1, v2, v3, v4, v5, v6, v7] st h Q) ∧
    (∀ (v0 v2 v3 v4 v5 v6 v7 : Value) (x : Int32) (st : List Value) (h : mr_h) (Q : Option Value → mr_h → Prop), mr_wp 98 43 [v0, .int x, v2, v3, v4, v5, v6, v7] st h Q = mr_wp 98 44 [v0, .int x, v2, v3, v4, v5, v6, v7] (.int x :: st) h Q) ∧
    (∀ (v0 v1 v2 v3 v4 v5 v6 : Value) (x : Int32) (st : List Value) (h : mr_h) (Q : Option Value → mr_h → Prop), mr_wp 98 44 [v0, v1, v2, v3, v4, v5, v6, .int x] st h Q = mr_wp 98 46 [v0, v1, v2, v3, v4, v5, v6, .int x] (.int x :: st) h Q) ∧
    (∀ (v0 v1 v2 v3 v4 v5 v6 v7 : Value) (a0 : Int32) (a1 : Int32) (h : mr_h) (Q : Option Value → mr_h → Prop), mr_wp 98 46 [v0, v1, v2, v3, v4, v5, v6, v7] [.int a1, .int a0] h Q = mr_run 17 [.int a0, .int a1] h (fun v h' => mr_wp 98 49 [v0, v1, v2, v3, v4, v5, v6, v7] (v.toList ++ []) h' Q)) ∧
    (∀ (v0 v1 v2 v3 v4 v5 v6 v7 : Value) (x : Int32) (st : List Value) (h : mr_h) (Q : Option Value → mr_h → Prop), mr_wp 98 49 [v0, v1, v2, v3, v4, v5, v6, v7] (.int x :: st) h Q = if x = 0 then mr_wp 98 82 [v0, v1, v2, v3, v4, v5, v6, v7] st h Q else mr_wp 98 52 [v0, v1, v2, v3, v4, v5, v6, v7] st h Q) ∧
    (∀ (v0 v1 v2 v3 v5 v6 v7 : Value) (x : Int32) (st : List Value) (h : mr_h) (Q : Option Value → mr_h → Prop), mr_wp 98 52 [v0, v1, v2, v3, .int x, v5, v6, v7] st h Q = mr_wp 98 54 [v0, v1, v2, v3, .int x, v5, v6, v7] (.int x :: st) h Q) ∧
    (∀ (v1 v2 v3 v4 v5 v6 v7 : Value) (x : Nat) (st : List Value) (h : mr_h) (Q : Option Value → mr_h → Prop), mr_wp 98 54 [.ref x, v1, v2, v3, v4, v5, v6, v7] st h Q = mr_wp 98 55 [.ref x, v1, v2, v3, v4, v5, v6, v7] (.ref x :: st) h Q) ∧
    (∀ (v0 v1 v2 v3 v4 v5 v6 v7 : Value) (a : Nat) (st : List Value) (h : mr_h) (Q : Option Value → mr_h → Prop), mr_wp 98 55 [v0, v1, v2, v3, v4, v5, v6, v7] (.ref a :: st) h Q = mr_gf (h.1 a) 1 2 (fun v => mr_wp 98 58 [v0, v1, v2, v3, v4, v5, v6, v7] (v :: st) h Q)) ∧
    (∀ (v0 v1 v2 v3 v4 v5 v6 : Value) (x : Int32) (st : List Value) (h : mr_h) (Q : Option Value → mr_h → Prop), mr_wp 98 58 [v0, v1, v2, v3, v4, v5, v6, .int x] st h Q = mr_wp 98 60 [v0, v1, v2, v3, v4, v5, v6, .int x] (.int x :: st) h Q) ∧
    (∀ (v0 v1 v2 v3 v4 v5 v6 v7 : Value) (a : Nat) (x : Int32) (st : List Value) (h : mr_h) (Q : Option Value → mr_h → Prop), mr_wp 98 60 [v0, v1, v2, v3, v4, v5, v6, v7] (.int x :: .ref a :: st) h Q = mr_ai (h.1 a) x (fun v => mr_wp 98 61 [v0, v1, v2, v3, v4, v5, v6, v7] (.int v :: st) h Q)) ∧
    (∀ (v0 v1 v2 v3 v4 v5 v6 v7 : Value) (a0 : Int32) (a1 : Int32) (h : mr_h) (Q : Option Value → mr_h → Prop), mr_wp 98 61 [v0, v1, v2, v3, v4, v5, v6, v7] [.int a1, .int a0] h Q = mr_run 17 [.int a0, .int a1] h (fun v h' => mr_wp 98 64 [v0, v1, v2, v3, v4, v5, v6, v7] (v.toList ++ []) h' Q)) ∧
    (∀ (v0 v1 v2 v3 v4 v5 v6 v7 : Value) (x : Int32) (st : List Value) (h : mr_h) (Q : Option Value → mr_h → Prop), mr_wp 98 64 [v0, v1, v2, v3, v4, v5, v6, v7] (.int x :: st) h Q = if x = 0 then mr_wp 98 82 [v0, v1, v2, v3, v4, v5, v6, v7] st h Q else mr_wp 98 67 [v0, v1, v2, v3, v4, v5, v6, v7] st h Q) ∧
    (∀ (v0 v1 v2 v3 v5 v6 v7 : Value) (x : Int32) (st : List Value) (h : mr_h) (Q : Option Value → mr_h → Prop), mr_wp 98 67 [v0, v1, v2, v3, .int x, v5, v6, v7] st h Q = mr_wp 98 69 [v0, v1, v2, v3, .int x, v5, v6, v7] (.int x :: st) h Q) ∧
    (∀ (v1 v2 v3 v4 v5 v6 v7 : Value) (x : Nat) (st : List Value) (h : mr_h) (Q : Option Value → mr_h → Prop), mr_wp 98 69 [.ref x, v1, v2, v3, v4, v5, v6, v7] st h Q = mr_wp 98 70 [.ref x, v1, v2, v3, v4, v5, v6, v7] (.ref x :: st) h Q) ∧
    (∀ (v0 v1 v2 v3 v4 v5 v6 v7 : Value) (a : Nat) (st : List Value) (h : mr_h) (Q : Option Value → mr_h → Prop), mr_wp 98 70 [v0, v1, v2, v3, v4, v5, v6, v7] (.ref a :: st) h Q = mr_gf (h.1 a) 1 3 (fun v => mr_wp 98 73 [v0, v1, v2, v3, v4, v5, v6, v7] (v :: st) h Q)) ∧
    (∀ (v0 v1 v2 v3 v4 v5 v6 : Value) (x : Int32) (st : List Value) (h : mr_h) (Q : Option Value → mr_h → Prop), mr_wp 98 73 [v0, v1, v2, v3, v4, v5, v6, .int x] st h Q = mr_wp 98 75 [v0, v1, v2, v3, v4, v5, v6, .int x] (.int x :: st) h Q) ∧
    (∀ (v0 v1 v2 v3 v4 v5 v6 v7 : Value) (a : Nat) (x : Int32) (st : List Value) (h : mr_h) (Q : Option Value → mr_h → Prop), mr_wp 98 75 [v0, v1, v2, v3, v4, v5, v6, v7] (.int x :: .ref a :: st) h Q = mr_ai (h.1 a) x (fun v => mr_wp 98 76 [v0, v1, v2, v3, v4, v5, v6, v7] (.int v :: st) h Q)) ∧
    (∀ (v0 v1 v2 v3 v4 v5 v6 v7 : Value) (a0 : Int32) (r0 : Value) (h : mr_h) (Q : Option Value → mr_h → Prop), mr_wp 98 76 [v0, v1, v2, v3, v4, v5, v6, v7] [.int a0, r0] h Q = mr_run 16 [.int a0] h (fun v h' => mr_wp 98 79 [v0, v1, v2, v3, v4, v5, v6, v7] (v.toList ++ [r0]) h' Q)) ∧
    (∀ (v0 v1 v2 v3 v4 v5 v6 v7 : Value) (x : Int32) (y : Int32) (st : List Value) (h : mr_h) (Q : Option Value → mr_h → Prop), mr_wp 98 79 [v0, v1, v2, v3, v4, v5, v6, v7] (.int y :: .int x :: st) h Q = mr_wp 98 80 [v0, v1, v2, v3, v4, v5, v6, v7] (.int (x ||| y) :: st) h Q) ∧
    (∀ (v0 v1 v2 v4 v5 v6 v7 : Value) (w3 : Int32) (x : Int32) (st : List Value) (h : mr_h) (Q : Option Value → mr_h → Prop), mr_wp 98 80 [v0, v1, v2, .int w3, v4, v5, v6, v7] (.int x :: st) h Q = mr_wp 98 82 [v0, v1, v2, .int w3, .int x, v5, v6, v7] st h Q) ∧
    (∀ (v0 v1 v2 v3 v4 v5 : Value) (x : Int32) (w6 : Int32) (st : List Value) (h : mr_h) (Q : Option Value → mr_h → Prop), mr_wp 98 82 [v0, v1, v2, v3, v4, v5, .int w6, .int x] st h Q = mr_wp 98 85 [v0, v1, v2, v3, v4, v5, .int w6, .int (x + (1))] st h Q) ∧
    (∀ (v0 v1 v2 v3 v4 v5 v6 v7 : Value) (st : List Value) (h : mr_h) (Q : Option Value → mr_h → Prop), mr_wp 98 85 [v0, v1, v2, v3, v4, v5, v6, v7] st h Q = mr_wp 98 34 [v0, v1, v2, v3, v4, v5, v6, v7] st h Q) :=
  ⟨fun v0 v1 v3 v4 v5 v6 v7 x st h Q => gx_one (i := .iload_n 2) (len := 1) (by decide +kernel) rfl,
   fun v0 v1 v2 v3 v4 v5 v6 v7 a0 h Q => gx_stat (x := 49) (t := 16) (n := 1) (by decide +kernel) (by decide +kernel) (by decide) (by decide +kernel) rfl (Or.inl (Nat.le_of_ble_eq_true rfl)) (by show _ ≤ mr_mxl 16; rw [show mr_mxl 16 = 1 from by decide +kernel]; exact Nat.le_of_ble_eq_true rfl),
   fun v0 v1 v2 v4 v5 v6 v7 w3 x st h Q => gx_one (i := .istore 4) (len := 2) (by decide +kernel) rfl,
   fun v0 v1 v2 v3 v4 v5 v6 v7 st h Q => gx_one (i := .iconst 0) (len := 1) (by decide +kernel) rfl,
   fun v0 v1 v2 v3 v5 v6 v7 w4 x st h Q => gx_one (i := .istore 5) (len := 2) (by decide +kernel) rfl,
   fun v1 v2 v3 v4 v5 v6 v7 x st h Q => gx_one (i := .aload_n 0) (len := 1) (by decide +kernel) rfl,
   fun v0 v1 v2 v3 v4 v5 v6 v7 a st h Q => gx_get (x := 29) (by decide +kernel) (by decide +kernel),
   fun v0 v1 v2 v3 v4 v5 v6 v7 x y st h Q => gx_br (i := .if_icmp .gt 89) (len := 3) (c := .gt) (by decide +kernel) rfl rfl,
   fun v0 v1 v2 v3 v5 v6 v7 x st h Q => gx_one (i := .iload 4) (len := 2) (by decide +kernel) rfl,
   fun v0 v1 v2 v4 v5 v6 v7 x st h Q => gx_one (i := .iload_n 3) (len := 1) (by decide +kernel) rfl,
   fun v0 v1 v2 v3 v4 v5 v6 v7 a0 a1 h Q => gx_stat (x := 76) (t := 17) (n := 2) (by decide +kernel) (by decide +kernel) (by decide) (by decide +kernel) rfl (Or.inl (Nat.le_of_ble_eq_true rfl)) (by show _ ≤ mr_mxl 17; rw [show mr_mxl 17 = 2 from by decide +kernel]; exact Nat.le_of_ble_eq_true rfl),
   fun v0 v1 v2 v3 v4 v5 v6 v7 x st h Q => gx_br (i := .ifCond .ne 80) (len := 3) (c := .ne) (by decide +kernel) rfl rfl,
   fun v0 v1 v2 v3 v5 v6 v7 x st h Q => gx_one (i := .iload 4) (len := 2) (by decide +kernel) rfl,
   fun v0 v1 v2 v3 v4 v6 v7 w5 x st h Q => gx_one (i := .istore 6) (len := 2) (by decide +kernel) rfl,
   fun v0 v1 v2 v3 v4 v5 v6 v7 st h Q => gx_one (i := .iconst 0) (len := 1) (by decide +kernel) rfl,
   fun v0 v1 v2 v3 v4 v5 v7 w6 x st h Q => gx_one (i := .istore 7) (len := 2) (by decide +kernel) rfl,
   fun v1 v2 v3 v4 v5 v6 v7 x st h Q => gx_one (i := .aload_n 0) (len := 1) (by decide +kernel) rfl,
   fun v0 v1 v2 v3 v4 v5 v6 v7 a st h Q => gx_get (x := 29) (by decide +kernel) (by decide +kernel),
   fun v0 v1 v2 v3 v4 v5 v6 v7 x y st h Q => gx_br (i := .if_icmp .ge 48) (len := 3) (c := .ge) (by decide +kernel) rfl rfl,
   fun v0 v2 v3 v4 v5 v6 v7 x st h Q => gx_one (i := .iload_n 1) (len := 1) (by decide +kernel) rfl,
   fun v0 v1 v2 v3 v4 v5 v6 x st h Q => gx_one (i := .iload 7) (len := 2) (by decide +kernel) rfl,
   fun v0 v1 v2 v3 v4 v5 v6 v7 a0 a1 h Q => gx_stat (x := 76) (t := 17) (n := 2) (by decide +kernel) (by decide +kernel) (by decide) (by decide +kernel) rfl (Or.inl (Nat.le_of_ble_eq_true rfl)) (by show _ ≤ mr_mxl 17; rw [show mr_mxl 17 = 2 from by decide +kernel]; exact Nat.le_of_ble_eq_true rfl),
   fun v0 v1 v2 v3 v4 v5 v6 v7 x st h Q => gx_br (i := .ifCond .eq 33) (len := 3) (c := .eq) (by decide +kernel) rfl rfl,
   fun v0 v1 v2 v3 v5 v6 v7 x st h Q => gx_one (i := .iload 4) (len := 2) (by decide +kernel) rfl,
   fun v1 v2 v3 v4 v5 v6 v7 x st h Q => gx_one (i := .aload_n 0) (len := 1) (by decide +kernel) rfl,
   fun v0 v1 v2 v3 v4 v5 v6 v7 a st h Q => gx_get (x := 18) (by decide +kernel) (by decide +kernel),
   fun v0 v1 v2 v3 v4 v5 v6 x st h Q => gx_one (i := .iload 7) (len := 2) (by decide +kernel) rfl,
   fun v0 v1 v2 v3 v4 v5 v6 v7 a x st h Q => gx_iald (by decide +kernel),
   fun v0 v1 v2 v3 v4 v5 v6 v7 a0 a1 h Q => gx_stat (x := 76) (t := 17) (n := 2) (by decide +kernel) (by decide +kernel) (by decide) (by decide +kernel) rfl (Or.inl (Nat.le_of_ble_eq_true rfl)) (by show _ ≤ mr_mxl 17; rw [show mr_mxl 17 = 2 from by decide +kernel]; exact Nat.le_of_ble_eq_true rfl),
   fun v0 v1 v2 v3 v4 v5 v6 v7 x st h Q => gx_br (i := .ifCond .eq 18) (len := 3) (c := .eq) (by decide +kernel) rfl rfl,
   fun v0 v1 v2 v3 v5 v6 v7 x st h Q => gx_one (i := .iload 4) (len := 2) (by decide +kernel) rfl,
   fun v1 v2 v3 v4 v5 v6 v7 x st h Q => gx_one (i := .aload_n 0) (len := 1) (by decide +kernel) rfl,
   fun v0 v1 v2 v3 v4 v5 v6 v7 a st h Q => gx_get (x := 22) (by decide +kernel) (by decide +kernel),
   fun v0 v1 v2 v3 v4 v5 v6 x st h Q => gx_one (i := .iload 7) (len := 2) (by decide +kernel) rfl,
   fun v0 v1 v2 v3 v4 v5 v6 v7 a x st h Q => gx_iald (by decide +kernel),
   fun v0 v1 v2 v3 v4 v5 v6 v7 a0 r0 h Q => gx_stat (x := 49) (t := 16) (n := 1) (by decide +kernel) (by decide +kernel) (by decide) (by decide +kernel) rfl (Or.inl (Nat.le_of_ble_eq_true rfl)) (by show _ ≤ mr_mxl 16; rw [show mr_mxl 16 = 1 from by decide +kernel]; exact Nat.le_of_ble_eq_true rfl),
   fun v0 v1 v2 v3 v4 v5 v6 v7 x y st h Q => gx_one (i := .ior) (len := 1) (by decide +kernel) rfl,
   fun v0 v1 v2 v4 v5 v6 v7 w3 x st h Q => gx_one (i := .istore 4) (len := 2) (by decide +kernel) rfl,
   fun v0 v1 v2 v3 v4 v5 x w6 st h Q => gx_one (i := .iinc 7 1) (len := 3) (by decide +kernel) rfl,
   fun v0 v1 v2 v3 v4 v5 v6 v7 st h Q => gx_one (i := .goto (-51)) (len := 3) (by decide +kernel) rfl⟩
theorem S_ch_arrives_1 : (∀ (v0 v1 v2 v3 v5 v6 v7 : Value) (x : Int32) (st : List Value) (h : mr_h) (Q : Option Value → mr_h → Prop), mr_wp 98 88 [v0, v1, v2, v3, .int x, v5, v6, v7] st h Q = mr_wp 98 90 [v0, v1, v2, v3, .int x, v5, v6, v7] (.int x :: st) h Q) ∧
    (∀ (v0 v1 v2 v3 v4 v5 v7 : Value) (x : Int32) (st : List Value) (h : mr_h) (Q : Option Value → mr_h → Prop), mr_wp 98 90 [v0, v1, v2, v3, v4, v5, .int x, v7] st h Q = mr_wp 98 92 [v0, v1, v2, v3, v4, v5, .int x, v7] (.int x :: st) h Q) ∧
    (∀ (v0 v1 v2 v3 v4 v5 v6 v7 : Value) (x : Int32) (y : Int32) (st : List Value) (h : mr_h) (Q : Option Value → mr_h → Prop), mr_wp 98 92 [v0, v1, v2, v3, v4, v5, v6, v7] (.int y :: .int x :: st) h Q = if ¬ x = y then mr_wp 98 98 [v0, v1, v2, v3, v4, v5, v6, v7] st h Q else mr_wp 98 95 [v0, v1, v2, v3, v4, v5, v6, v7] st h Q) ∧
    (∀ (v0 v1 v2 v3 v4 v5 v6 v7 : Value) (st : List Value) (h : mr_h) (Q : Option Value → mr_h → Prop), mr_wp 98 95 [v0, v1, v2, v3, v4, v5, v6, v7] st h Q = mr_wp 98 104 [v0, v1, v2, v3, v4, v5, v6, v7] st h Q) ∧
    (∀ (v0 v1 v2 v3 v6 v7 : Value) (x : Int32) (w4 : Int32) (st : List Value) (h : mr_h) (Q : Option Value → mr_h → Prop), mr_wp 98 98 [v0, v1, v2, v3, .int w4, .int x, v6, v7] st h Q = mr_wp 98 101 [v0, v1, v2, v3, .int w4, .int (x + (1)), v6, v7] st h Q) ∧
    (∀ (v0 v1 v2 v3 v4 v5 v6 v7 : Value) (st : List Value) (h : mr_h) (Q : Option Value → mr_h → Prop), mr_wp 98 101 [v0, v1, v2, v3, v4, v5, v6, v7] st h Q = mr_wp 98 9 [v0, v1, v2, v3, v4, v5, v6, v7] st h Q) ∧
    (∀ (v0 v1 v2 v3 v5 v6 v7 : Value) (x : Int32) (st : List Value) (h : mr_h) (Q : Option Value → mr_h → Prop), mr_wp 98 104 [v0, v1, v2, v3, .int x, v5, v6, v7] st h Q = mr_wp 98 106 [v0, v1, v2, v3, .int x, v5, v6, v7] (.int x :: st) h Q) ∧
    (∀ (v0 v1 v2 v4 v5 v6 v7 : Value) (x : Int32) (st : List Value) (h : mr_h) (Q : Option Value → mr_h → Prop), mr_wp 98 106 [v0, v1, v2, .int x, v4, v5, v6, v7] st h Q = mr_wp 98 107 [v0, v1, v2, .int x, v4, v5, v6, v7] (.int x :: st) h Q) ∧
    (∀ (v0 v1 v2 v3 v4 v5 v6 v7 : Value) (a0 : Int32) (a1 : Int32) (h : mr_h) (Q : Option Value → mr_h → Prop), mr_wp 98 107 [v0, v1, v2, v3, v4, v5, v6, v7] [.int a1, .int a0] h Q = mr_run 17 [.int a0, .int a1] h (fun v h' => mr_wp 98 110 [v0, v1, v2, v3, v4, v5, v6, v7] (v.toList ++ []) h' Q)) ∧
    (∀ (v0 v1 v2 v3 v4 v5 v6 v7 : Value) (x : Int32) (h : mr_h) (Q : Option Value → mr_h → Prop) (hv : x &&& 1 = x), mr_wp 98 110 [v0, v1, v2, v3, v4, v5, v6, v7] [.int x] h Q = Q (some (.int x)) h) :=
  ⟨fun v0 v1 v2 v3 v5 v6 v7 x st h Q => gx_one (i := .iload 4) (len := 2) (by decide +kernel) rfl,
   fun v0 v1 v2 v3 v4 v5 v7 x st h Q => gx_one (i := .iload 6) (len := 2) (by decide +kernel) rfl,
   fun v0 v1 v2 v3 v4 v5 v6 v7 x y st h Q => gx_br (i := .if_icmp .ne 6) (len := 3) (c := .ne) (by decide +kernel) rfl rfl,
   fun v0 v1 v2 v3 v4 v5 v6 v7 st h Q => gx_one (i := .goto 9) (len := 3) (by decide +kernel) rfl,
   fun v0 v1 v2 v3 v6 v7 x w4 st h Q => gx_one (i := .iinc 5 1) (len := 3) (by decide +kernel) rfl,
   fun v0 v1 v2 v3 v4 v5 v6 v7 st h Q => gx_one (i := .goto (-92)) (len := 3) (by decide +kernel) rfl,
   fun v0 v1 v2 v3 v5 v6 v7 x st h Q => gx_one (i := .iload 4) (len := 2) (by decide +kernel) rfl,
   fun v0 v1 v2 v4 v5 v6 v7 x st h Q => gx_one (i := .iload_n 3) (len := 1) (by decide +kernel) rfl,
   fun v0 v1 v2 v3 v4 v5 v6 v7 a0 a1 h Q => gx_stat (x := 76) (t := 17) (n := 2) (by decide +kernel) (by decide +kernel) (by decide) (by decide +kernel) rfl (Or.inl (Nat.le_of_ble_eq_true rfl)) (by show _ ≤ mr_mxl 17; rw [show mr_mxl 17 = 2 from by decide +kernel]; exact Nat.le_of_ble_eq_true rfl),
   fun v0 v1 v2 v3 v4 v5 v6 v7 x h Q hv => gx_ret (i := .ireturn) (len := 1) (by decide +kernel) rfl rfl (by simp only [mr_rt, if_pos]; rw [if_pos (Or.inr ⟨by decide +kernel, hv⟩)])⟩

theorem s_ch_reduce_13 (v0 v1 v2 v3 v4 v6 v7 : Value) (x : Int32) (st : List Value) (h : mr_h) (Q : Option Value → mr_h → Prop) : mr_wp 99 13 [v0, v1, v2, v3, v4, .int x, v6, v7] st h Q = mr_wp 99 15 [v0, v1, v2, v3, v4, .int x, v6, v7] (.int x :: st) h Q := gx_one (i := .iload 5) (len := 2) (by decide +kernel) rfl
theorem S_ch_reduce_0 : (∀ (v1 v2 v3 v4 v5 v6 v7 : Value) (x : Nat) (st : List Value) (h : mr_h) (Q : Option Value → mr_h → Prop), mr_wp 99 0 [.ref x, v1, v2, v3, v4, v5, v6, v7] st h Q = mr_wp 99 1 [.ref x, v1, v2, v3, v4, v5, v6, v7] (.ref x :: st) h Q) ∧
    (∀ (v0 v1 v2 v3 v4 v5 v6 v7 : Value) (a : Nat) (st : List Value) (h : mr_h) (Q : Option Value → mr_h → Prop), mr_wp 99 1 [v0, v1, v2, v3, v4, v5, v6, v7] (.ref a :: st) h Q = mr_gf (h.1 a) 1 1 (fun v => mr_wp 99 4 [v0, v1, v2, v3, v4, v5, v6, v7] (v :: st) h Q)) ∧
    (∀ (v1 v2 v3 v4 v5 v6 v7 : Value) (w0 : Nat) (x : Int64) (st : List Value) (h : mr_h) (Q : Option Value → mr_h → Prop), mr_wp 99 4 [.ref w0, v1, v2, v3, v4, v5, v6, v7] (.long x :: st) h Q = mr_wp 99 5 [.ref w0, .long x, .null, v3, v4, v5, v6, v7] st h Q) ∧
    (∀ (v1 v2 v3 v4 v5 v6 v7 : Value) (x : Nat) (st : List Value) (h : mr_h) (Q : Option Value → mr_h → Prop), mr_wp 99 5 [.ref x, v1, v2, v3, v4, v5, v6, v7] st h Q = mr_wp 99 6 [.ref x, v1, v2, v3, v4, v5, v6, v7] (.ref x :: st) h Q) ∧
    (∀ (v0 v1 v2 v3 v4 v5 v6 v7 : Value) (a : Nat) (st : List Value) (h : mr_h) (Q : Option Value → mr_h → Prop), mr_wp 99 6 [v0, v1, v2, v3, v4, v5, v6, v7] (.ref a :: st) h Q = mr_gf (h.1 a) 1 0 (fun v => mr_wp 99 9 [v0, v1, v2, v3, v4, v5, v6, v7] (v :: st) h Q)) ∧
    (∀ (v0 v1 v3 v4 v5 v6 v7 : Value) (x : Int64) (st : List Value) (h : mr_h) (Q : Option Value → mr_h → Prop), mr_wp 99 9 [v0, v1, .null, v3, v4, v5, v6, v7] (.long x :: st) h Q = mr_wp 99 10 [v0, v1, .null, .long x, .null, v5, v6, v7] st h Q) ∧
    (∀ (v0 v1 v2 v3 v4 v5 v6 v7 : Value) (st : List Value) (h : mr_h) (Q : Option Value → mr_h → Prop), mr_wp 99 10 [v0, v1, v2, v3, v4, v5, v6, v7] st h Q = mr_wp 99 11 [v0, v1, v2, v3, v4, v5, v6, v7] (.int (0) :: st) h Q) ∧
    (∀ (v0 v1 v2 v3 v5 v6 v7 : Value) (x : Int32) (st : List Value) (h : mr_h) (Q : Option Value → mr_h → Prop), mr_wp 99 11 [v0, v1, v2, v3, .null, v5, v6, v7] (.int x :: st) h Q = mr_wp 99 13 [v0, v1, v2, v3, .null, .int x, v6, v7] st h Q) ∧
    (∀ (v0 v1 v2 v3 v4 v5 v6 v7 : Value) (st : List Value) (h : mr_h) (Q : Option Value → mr_h → Prop), mr_wp 99 15 [v0, v1, v2, v3, v4, v5, v6, v7] st h Q = mr_wp 99 17 [v0, v1, v2, v3, v4, v5, v6, v7] (.int (100) :: st) h Q) ∧
    (∀ (v0 v1 v2 v3 v4 v5 v6 v7 : Value) (x : Int32) (y : Int32) (st : List Value) (h : mr_h) (Q : Option Value → mr_h → Prop), mr_wp 99 17 [v0, v1, v2, v3, v4, v5, v6, v7] (.int y :: .int x :: st) h Q = if y ≤ x then mr_wp 99 42 [v0, v1, v2, v3, v4, v5, v6, v7] st h Q else mr_wp 99 20 [v0, v1, v2, v3, v4, v5, v6, v7] st h Q) ∧
    (∀ (v0 v1 v2 v4 v5 v6 v7 : Value) (x : Int64) (st : List Value) (h : mr_h) (Q : Option Value → mr_h → Prop), mr_wp 99 20 [v0, v1, v2, .long x, v4, v5, v6, v7] st h Q = mr_wp 99 21 [v0, v1, v2, .long x, v4, v5, v6, v7] (.long x :: st) h Q) ∧
    (∀ (v0 v1 v2 v3 v4 v5 v6 v7 : Value) (st : List Value) (h : mr_h) (Q : Option Value → mr_h → Prop), mr_wp 99 21 [v0, v1, v2, v3, v4, v5, v6, v7] st h Q = mr_wp 99 22 [v0, v1, v2, v3, v4, v5, v6, v7] (.long (0) :: st) h Q) ∧
    (∀ (v0 v1 v2 v3 v4 v5 v6 v7 : Value) (x : Int64) (y : Int64) (st : List Value) (h : mr_h) (Q : Option Value → mr_h → Prop), mr_wp 99 22 [v0, v1, v2, v3, v4, v5, v6, v7] (.long y :: .long x :: st) h Q = mr_wp 99 23 [v0, v1, v2, v3, v4, v5, v6, v7] (.int (lg_cmp x y) :: st) h Q) ∧
    (∀ (v0 v1 v2 v3 v4 v5 v6 v7 : Value) (x : Int32) (st : List Value) (h : mr_h) (Q : Option Value → mr_h → Prop), mr_wp 99 23 [v0, v1, v2, v3, v4, v5, v6, v7] (.int x :: st) h Q = if x = 0 then mr_wp 99 42 [v0, v1, v2, v3, v4, v5, v6, v7] st h Q else mr_wp 99 26 [v0, v1, v2, v3, v4, v5, v6, v7] st h Q) ∧
    (∀ (v0 v2 v3 v4 v5 v6 v7 : Value) (x : Int64) (st : List Value) (h : mr_h) (Q : Option Value → mr_h → Prop), mr_wp 99 26 [v0, .long x, v2, v3, v4, v5, v6, v7] st h Q = mr_wp 99 27 [v0, .long x, v2, v3, v4, v5, v6, v7] (.long x :: st) h Q) ∧
    (∀ (v0 v1 v2 v4 v5 v6 v7 : Value) (x : Int64) (st : List Value) (h : mr_h) (Q : Option Value → mr_h → Prop), mr_wp 99 27 [v0, v1, v2, .long x, v4, v5, v6, v7] st h Q = mr_wp 99 28 [v0, v1, v2, .long x, v4, v5, v6, v7] (.long x :: st) h Q) ∧
    (∀ (v0 v1 v2 v3 v4 v5 v6 v7 : Value) (x : Int64) (y : Int64) (st : List Value) (h : mr_h) (Q : Option Value → mr_h → Prop) (hv : ¬ y = 0), mr_wp 99 28 [v0, v1, v2, v3, v4, v5, v6, v7] (.long y :: .long x :: st) h Q = mr_wp 99 29 [v0, v1, v2, v3, v4, v5, v6, v7] (.long (x - x / y * y) :: st) h Q) ∧
    (∀ (v0 v1 v2 v3 v4 v6 v7 : Value) (w5 : Int32) (x : Int64) (st : List Value) (h : mr_h) (Q : Option Value → mr_h → Prop), mr_wp 99 29 [v0, v1, v2, v3, v4, .int w5, v6, v7] (.long x :: st) h Q = mr_wp 99 31 [v0, v1, v2, v3, v4, .int w5, .long x, .null] st h Q) ∧
    (∀ (v0 v1 v2 v4 v5 v6 v7 : Value) (x : Int64) (st : List Value) (h : mr_h) (Q : Option Value → mr_h → Prop), mr_wp 99 31 [v0, v1, v2, .long x, v4, v5, v6, v7] st h Q = mr_wp 99 32 [v0, v1, v2, .long x, v4, v5, v6, v7] (.long x :: st) h Q) ∧
    (∀ (v1 v2 v3 v4 v5 v6 v7 : Value) (w0 : Nat) (x : Int64) (st : List Value) (h : mr_h) (Q : Option Value → mr_h → Prop), mr_wp 99 32 [.ref w0, v1, v2, v3, v4, v5, v6, v7] (.long x :: st) h Q = mr_wp 99 33 [.ref w0, .long x, .null, v3, v4, v5, v6, v7] st h Q) ∧
    (∀ (v0 v1 v2 v3 v4 v5 v7 : Value) (x : Int64) (st : List Value) (h : mr_h) (Q : Option Value → mr_h → Prop), mr_wp 99 33 [v0, v1, v2, v3, v4, v5, .long x, v7] st h Q = mr_wp 99 35 [v0, v1, v2, v3, v4, v5, .long x, v7] (.long x :: st) h Q) ∧
    (∀ (v0 v1 v3 v4 v5 v6 v7 : Value) (x : Int64) (st : List Value) (h : mr_h) (Q : Option Value → mr_h → Prop), mr_wp 99 35 [v0, v1, .null, v3, v4, v5, v6, v7] (.long x :: st) h Q = mr_wp 99 36 [v0, v1, .null, .long x, .null, v5, v6, v7] st h Q) ∧
    (∀ (v0 v1 v2 v3 v6 v7 : Value) (x : Int32) (st : List Value) (h : mr_h) (Q : Option Value → mr_h → Prop), mr_wp 99 36 [v0, v1, v2, v3, .null, .int x, v6, v7] st h Q = mr_wp 99 39 [v0, v1, v2, v3, .null, .int (x + (1)), v6, v7] st h Q) ∧
    (∀ (v0 v1 v2 v3 v4 v5 v6 v7 : Value) (st : List Value) (h : mr_h) (Q : Option Value → mr_h → Prop), mr_wp 99 39 [v0, v1, v2, v3, v4, v5, v6, v7] st h Q = mr_wp 99 13 [v0, v1, v2, v3, v4, v5, v6, v7] st h Q) ∧
    (∀ (v0 v2 v3 v4 v5 v6 v7 : Value) (x : Int64) (st : List Value) (h : mr_h) (Q : Option Value → mr_h → Prop), mr_wp 99 42 [v0, .long x, v2, v3, v4, v5, v6, v7] st h Q = mr_wp 99 43 [v0, .long x, v2, v3, v4, v5, v6, v7] (.long x :: st) h Q) ∧
    (∀ (v0 v1 v2 v3 v4 v5 v6 v7 : Value) (st : List Value) (h : mr_h) (Q : Option Value → mr_h → Prop), mr_wp 99 43 [v0, v1, v2, v3, v4, v5, v6, v7] st h Q = mr_wp 99 44 [v0, v1, v2, v3, v4, v5, v6, v7] (.long (1) :: st) h Q) ∧
    (∀ (v0 v1 v2 v3 v4 v5 v6 v7 : Value) (x : Int64) (y : Int64) (st : List Value) (h : mr_h) (Q : Option Value → mr_h → Prop), mr_wp 99 44 [v0, v1, v2, v3, v4, v5, v6, v7] (.long y :: .long x :: st) h Q = mr_wp 99 45 [v0, v1, v2, v3, v4, v5, v6, v7] (.int (lg_cmp x y) :: st) h Q) ∧
    (∀ (v0 v1 v2 v3 v4 v5 v6 v7 : Value) (x : Int32) (st : List Value) (h : mr_h) (Q : Option Value → mr_h → Prop), mr_wp 99 45 [v0, v1, v2, v3, v4, v5, v6, v7] (.int x :: st) h Q = if x ≤ 0 then mr_wp 99 68 [v0, v1, v2, v3, v4, v5, v6, v7] st h Q else mr_wp 99 48 [v0, v1, v2, v3, v4, v5, v6, v7] st h Q) ∧
    (∀ (v1 v2 v3 v4 v5 v6 v7 : Value) (x : Nat) (st : List Value) (h : mr_h) (Q : Option Value → mr_h → Prop), mr_wp 99 48 [.ref x, v1, v2, v3, v4, v5, v6, v7] st h Q = mr_wp 99 49 [.ref x, v1, v2, v3, v4, v5, v6, v7] (.ref x :: st) h Q) ∧
    (∀ (v0 v1 v2 v3 v4 v5 v6 v7 : Value) (x : Nat) (st : List Value) (h : mr_h) (Q : Option Value → mr_h → Prop), mr_wp 99 49 [v0, v1, v2, v3, v4, v5, v6, v7] (.ref x :: st) h Q = mr_wp 99 50 [v0, v1, v2, v3, v4, v5, v6, v7] (.ref x :: .ref x :: st) h Q) ∧
    (∀ (v0 v1 v2 v3 v4 v5 v6 v7 : Value) (a : Nat) (st : List Value) (h : mr_h) (Q : Option Value → mr_h → Prop), mr_wp 99 50 [v0, v1, v2, v3, v4, v5, v6, v7] (.ref a :: st) h Q = mr_gf (h.1 a) 1 0 (fun v => mr_wp 99 53 [v0, v1, v2, v3, v4, v5, v6, v7] (v :: st) h Q)) ∧
    (∀ (v0 v2 v3 v4 v5 v6 v7 : Value) (x : Int64) (st : List Value) (h : mr_h) (Q : Option Value → mr_h → Prop), mr_wp 99 53 [v0, .long x, v2, v3, v4, v5, v6, v7] st h Q = mr_wp 99 54 [v0, .long x, v2, v3, v4, v5, v6, v7] (.long x :: st) h Q) ∧
    (∀ (v0 v1 v2 v3 v4 v5 v6 v7 : Value) (x : Int64) (y : Int64) (st : List Value) (h : mr_h) (Q : Option Value → mr_h → Prop) (hv : ¬ y = 0), mr_wp 99 54 [v0, v1, v2, v3, v4, v5, v6, v7] (.long y :: .long x :: st) h Q = mr_wp 99 55 [v0, v1, v2, v3, v4, v5, v6, v7] (.long (x / y) :: st) h Q) ∧
    (∀ (v0 v1 v2 v3 v4 v5 v6 v7 : Value) (a : Nat) (x : Int64) (st : List Value) (h : mr_h) (Q : Option Value → mr_h → Prop), mr_wp 99 55 [v0, v1, v2, v3, v4, v5, v6, v7] (.long x :: .ref a :: st) h Q = mr_pf (h.1 a) 1 0 (.long x) (fun c => mr_wp 99 58 [v0, v1, v2, v3, v4, v5, v6, v7] st (mr_up h a c) Q)) ∧
    (∀ (v1 v2 v3 v4 v5 v6 v7 : Value) (x : Nat) (st : List Value) (h : mr_h) (Q : Option Value → mr_h → Prop), mr_wp 99 58 [.ref x, v1, v2, v3, v4, v5, v6, v7] st h Q = mr_wp 99 59 [.ref x, v1, v2, v3, v4, v5, v6, v7] (.ref x :: st) h Q) ∧
    (∀ (v0 v1 v2 v3 v4 v5 v6 v7 : Value) (x : Nat) (st : List Value) (h : mr_h) (Q : Option Value → mr_h → Prop), mr_wp 99 59 [v0, v1, v2, v3, v4, v5, v6, v7] (.ref x :: st) h Q = mr_wp 99 60 [v0, v1, v2, v3, v4, v5, v6, v7] (.ref x :: .ref x :: st) h Q) ∧
    (∀ (v0 v1 v2 v3 v4 v5 v6 v7 : Value) (a : Nat) (st : List Value) (h : mr_h) (Q : Option Value → mr_h → Prop), mr_wp 99 60 [v0, v1, v2, v3, v4, v5, v6, v7] (.ref a :: st) h Q = mr_gf (h.1 a) 1 1 (fun v => mr_wp 99 63 [v0, v1, v2, v3, v4, v5, v6, v7] (v :: st) h Q)) ∧
    (∀ (v0 v2 v3 v4 v5 v6 v7 : Value) (x : Int64) (st : List Value) (h : mr_h) (Q : Option Value → mr_h → Prop), mr_wp 99 63 [v0, .long x, v2, v3, v4, v5, v6, v7] st h Q = mr_wp 99 64 [v0, .long x, v2, v3, v4, v5, v6, v7] (.long x :: st) h Q) ∧
    (∀ (v0 v1 v2 v3 v4 v5 v6 v7 : Value) (x : Int64) (y : Int64) (st : List Value) (h : mr_h) (Q : Option Value → mr_h → Prop) (hv : ¬ y = 0), mr_wp 99 64 [v0, v1, v2, v3, v4, v5, v6, v7] (.long y :: .long x :: st) h Q = mr_wp 99 65 [v0, v1, v2, v3, v4, v5, v6, v7] (.long (x / y) :: st) h Q) ∧
    (∀ (v0 v1 v2 v3 v4 v5 v6 v7 : Value) (a : Nat) (x : Int64) (st : List Value) (h : mr_h) (Q : Option Value → mr_h → Prop), mr_wp 99 65 [v0, v1, v2, v3, v4, v5, v6, v7] (.long x :: .ref a :: st) h Q = mr_pf (h.1 a) 1 1 (.long x) (fun c => mr_wp 99 68 [v0, v1, v2, v3, v4, v5, v6, v7] st (mr_up h a c) Q)) :=
  ⟨fun v1 v2 v3 v4 v5 v6 v7 x st h Q => gx_one (i := .aload_n 0) (len := 1) (by decide +kernel) rfl,
   fun v0 v1 v2 v3 v4 v5 v6 v7 a st h Q => gx_get (x := 15) (by decide +kernel) (by decide +kernel),
   fun v1 v2 v3 v4 v5 v6 v7 w0 x st h Q => gx_one (i := .lstore_n 1) (len := 1) (by decide +kernel) rfl,
   fun v1 v2 v3 v4 v5 v6 v7 x st h Q => gx_one (i := .aload_n 0) (len := 1) (by decide +kernel) rfl,
   fun v0 v1 v2 v3 v4 v5 v6 v7 a st h Q => gx_get (x := 9) (by decide +kernel) (by decide +kernel),
   fun v0 v1 v3 v4 v5 v6 v7 x st h Q => gx_one (i := .lstore_n 3) (len := 1) (by decide +kernel) rfl,
   fun v0 v1 v2 v3 v4 v5 v6 v7 st h Q => gx_one (i := .iconst 0) (len := 1) (by decide +kernel) rfl,
   fun v0 v1 v2 v3 v5 v6 v7 x st h Q => gx_one (i := .istore 5) (len := 2) (by decide +kernel) rfl,
   fun v0 v1 v2 v3 v4 v5 v6 v7 st h Q => gx_one (i := .bipush 100) (len := 2) (by decide +kernel) rfl,
   fun v0 v1 v2 v3 v4 v5 v6 v7 x y st h Q => gx_br (i := .if_icmp .ge 25) (len := 3) (c := .ge) (by decide +kernel) rfl rfl,
   fun v0 v1 v2 v4 v5 v6 v7 x st h Q => gx_one (i := .lload_n 3) (len := 1) (by decide +kernel) rfl,
   fun v0 v1 v2 v3 v4 v5 v6 v7 st h Q => gx_one (i := .lconst 0) (len := 1) (by decide +kernel) rfl,
   fun v0 v1 v2 v3 v4 v5 v6 v7 x y st h Q => gx_one (i := .lcmp) (len := 1) (by decide +kernel) rfl,
   fun v0 v1 v2 v3 v4 v5 v6 v7 x st h Q => gx_br (i := .ifCond .eq 19) (len := 3) (c := .eq) (by decide +kernel) rfl rfl,
   fun v0 v2 v3 v4 v5 v6 v7 x st h Q => gx_one (i := .lload_n 1) (len := 1) (by decide +kernel) rfl,
   fun v0 v1 v2 v4 v5 v6 v7 x st h Q => gx_one (i := .lload_n 3) (len := 1) (by decide +kernel) rfl,
   fun v0 v1 v2 v3 v4 v5 v6 v7 x y st h Q hv => gx_one (i := .lrem) (len := 1) (by decide +kernel) (by simp only [mr_one]; rw [if_neg hv]; rfl),
   fun v0 v1 v2 v3 v4 v6 v7 w5 x st h Q => gx_one (i := .lstore 6) (len := 2) (by decide +kernel) rfl,
   fun v0 v1 v2 v4 v5 v6 v7 x st h Q => gx_one (i := .lload_n 3) (len := 1) (by decide +kernel) rfl,
   fun v1 v2 v3 v4 v5 v6 v7 w0 x st h Q => gx_one (i := .lstore_n 1) (len := 1) (by decide +kernel) rfl,
   fun v0 v1 v2 v3 v4 v5 v7 x st h Q => gx_one (i := .lload 6) (len := 2) (by decide +kernel) rfl,
   fun v0 v1 v3 v4 v5 v6 v7 x st h Q => gx_one (i := .lstore_n 3) (len := 1) (by decide +kernel) rfl,
   fun v0 v1 v2 v3 v6 v7 x st h Q => gx_one (i := .iinc 5 1) (len := 3) (by decide +kernel) rfl,
   fun v0 v1 v2 v3 v4 v5 v6 v7 st h Q => gx_one (i := .goto (-26)) (len := 3) (by decide +kernel) rfl,
   fun v0 v2 v3 v4 v5 v6 v7 x st h Q => gx_one (i := .lload_n 1) (len := 1) (by decide +kernel) rfl,
   fun v0 v1 v2 v3 v4 v5 v6 v7 st h Q => gx_one (i := .lconst 1) (len := 1) (by decide +kernel) rfl,
   fun v0 v1 v2 v3 v4 v5 v6 v7 x y st h Q => gx_one (i := .lcmp) (len := 1) (by decide +kernel) rfl,
   fun v0 v1 v2 v3 v4 v5 v6 v7 x st h Q => gx_br (i := .ifCond .le 23) (len := 3) (c := .le) (by decide +kernel) rfl rfl,
   fun v1 v2 v3 v4 v5 v6 v7 x st h Q => gx_one (i := .aload_n 0) (len := 1) (by decide +kernel) rfl,
   fun v0 v1 v2 v3 v4 v5 v6 v7 x st h Q => gx_one (i := .dup) (len := 1) (by decide +kernel) rfl,
   fun v0 v1 v2 v3 v4 v5 v6 v7 a st h Q => gx_get (x := 9) (by decide +kernel) (by decide +kernel),
   fun v0 v2 v3 v4 v5 v6 v7 x st h Q => gx_one (i := .lload_n 1) (len := 1) (by decide +kernel) rfl,
   fun v0 v1 v2 v3 v4 v5 v6 v7 x y st h Q hv => gx_one (i := .ldiv) (len := 1) (by decide +kernel) (by simp only [mr_one]; rw [if_neg hv]; rfl),
   fun v0 v1 v2 v3 v4 v5 v6 v7 a x st h Q => gx_put (x := 9) (by decide +kernel) (by decide +kernel) ⟨rfl, Or.inl rfl⟩,
   fun v1 v2 v3 v4 v5 v6 v7 x st h Q => gx_one (i := .aload_n 0) (len := 1) (by decide +kernel) rfl,
   fun v0 v1 v2 v3 v4 v5 v6 v7 x st h Q => gx_one (i := .dup) (len := 1) (by decide +kernel) rfl,
   fun v0 v1 v2 v3 v4 v5 v6 v7 a st h Q => gx_get (x := 15) (by decide +kernel) (by decide +kernel),
   fun v0 v2 v3 v4 v5 v6 v7 x st h Q => gx_one (i := .lload_n 1) (len := 1) (by decide +kernel) rfl,
   fun v0 v1 v2 v3 v4 v5 v6 v7 x y st h Q hv => gx_one (i := .ldiv) (len := 1) (by decide +kernel) (by simp only [mr_one]; rw [if_neg hv]; rfl),
   fun v0 v1 v2 v3 v4 v5 v6 v7 a x st h Q => gx_put (x := 15) (by decide +kernel) (by decide +kernel) ⟨rfl, Or.inl rfl⟩⟩
theorem S_ch_reduce_1 : (∀ (v0 v1 v2 v3 v4 v5 v6 v7 : Value) (h : mr_h) (Q : Option Value → mr_h → Prop), mr_wp 99 68 [v0, v1, v2, v3, v4, v5, v6, v7] [] h Q = Q none h) :=
  fun v0 v1 v2 v3 v4 v5 v6 v7 h Q => gx_ret (i := .return_) (len := 1) (by decide +kernel) rfl rfl (by simp only [mr_rt, if_pos]; rw [if_pos (by decide +kernel)])

theorem S_rl_sees : (∀ (v1 v2 v3 : Value) (x : Nat) (st : List Value) (h : mr_h) (Q : Option Value → mr_h → Prop), mr_wp 100 0 [.ref x, v1, v2, v3] st h Q = mr_wp 100 1 [.ref x, v1, v2, v3] (.ref x :: st) h Q) ∧
    (∀ (v0 v2 v3 : Value) (x : Int32) (st : List Value) (h : mr_h) (Q : Option Value → mr_h → Prop), mr_wp 100 1 [v0, .int x, v2, v3] st h Q = mr_wp 100 2 [v0, .int x, v2, v3] (.int x :: st) h Q) ∧
    (∀ (v0 v1 v3 : Value) (x : Int32) (st : List Value) (h : mr_h) (Q : Option Value → mr_h → Prop), mr_wp 100 2 [v0, v1, .int x, v3] st h Q = mr_wp 100 3 [v0, v1, .int x, v3] (.int x :: st) h Q) ∧
    (∀ (v0 v1 v2 v3 : Value) (a0 : Int32) (a1 : Int32) (o : Nat) (h : mr_h) (Q : Option Value → mr_h → Prop), mr_wp 100 3 [v0, v1, v2, v3] [.int a1, .int a0, .ref o] h Q = mr_rc (h.1 o) 10 (mr_run 47 [.ref o, .int a0, .int a1] h (fun v h' => mr_wp 100 6 [v0, v1, v2, v3] (v.toList ++ []) h' Q))) ∧
    (∀ (v0 v1 v2 v3 : Value) (x : Int32) (st : List Value) (h : mr_h) (Q : Option Value → mr_h → Prop), mr_wp 100 6 [v0, v1, v2, v3] (.int x :: st) h Q = if x = 0 then mr_wp 100 16 [v0, v1, v2, v3] st h Q else mr_wp 100 9 [v0, v1, v2, v3] st h Q) ∧
    (∀ (v0 v1 v2 : Value) (x : Int32) (st : List Value) (h : mr_h) (Q : Option Value → mr_h → Prop), mr_wp 100 9 [v0, v1, v2, .int x] st h Q = mr_wp 100 10 [v0, v1, v2, .int x] (.int x :: st) h Q) ∧
    (∀ (v0 v1 v2 v3 : Value) (a0 : Int32) (h : mr_h) (Q : Option Value → mr_h → Prop), mr_wp 100 10 [v0, v1, v2, v3] [.int a0] h Q = mr_run 82 [.int a0] h (fun v h' => mr_wp 100 13 [v0, v1, v2, v3] (v.toList ++ []) h' Q)) ∧
    (∀ (v0 v1 v2 v3 : Value) (x : Int32) (st : List Value) (h : mr_h) (Q : Option Value → mr_h → Prop), mr_wp 100 13 [v0, v1, v2, v3] (.int x :: st) h Q = if ¬ x = 0 then mr_wp 100 18 [v0, v1, v2, v3] st h Q else mr_wp 100 16 [v0, v1, v2, v3] st h Q) ∧
    (∀ (v0 v1 v2 v3 : Value) (st : List Value) (h : mr_h) (Q : Option Value → mr_h → Prop), mr_wp 100 16 [v0, v1, v2, v3] st h Q = mr_wp 100 17 [v0, v1, v2, v3] (.int (-1) :: st) h Q) ∧
    (∀ (v0 v1 v2 v3 : Value) (x : Int32) (h : mr_h) (Q : Option Value → mr_h → Prop), mr_wp 100 17 [v0, v1, v2, v3] [.int x] h Q = Q (some (.int x)) h) ∧
    (∀ (v1 v2 v3 : Value) (x : Nat) (st : List Value) (h : mr_h) (Q : Option Value → mr_h → Prop), mr_wp 100 18 [.ref x, v1, v2, v3] st h Q = mr_wp 100 19 [.ref x, v1, v2, v3] (.ref x :: st) h Q) ∧
    (∀ (v0 v1 v2 v3 : Value) (a : Nat) (st : List Value) (h : mr_h) (Q : Option Value → mr_h → Prop), mr_wp 100 19 [v0, v1, v2, v3] (.ref a :: st) h Q = mr_gf (h.1 a) 10 8 (fun v => mr_wp 100 22 [v0, v1, v2, v3] (v :: st) h Q)) ∧
    (∀ (v0 v2 v3 : Value) (x : Int32) (st : List Value) (h : mr_h) (Q : Option Value → mr_h → Prop), mr_wp 100 22 [v0, .int x, v2, v3] st h Q = mr_wp 100 23 [v0, .int x, v2, v3] (.int x :: st) h Q) ∧
    (∀ (v0 v1 v3 : Value) (x : Int32) (st : List Value) (h : mr_h) (Q : Option Value → mr_h → Prop), mr_wp 100 23 [v0, v1, .int x, v3] st h Q = mr_wp 100 24 [v0, v1, .int x, v3] (.int x :: st) h Q) ∧
    (∀ (v0 v1 v2 : Value) (x : Int32) (st : List Value) (h : mr_h) (Q : Option Value → mr_h → Prop), mr_wp 100 24 [v0, v1, v2, .int x] st h Q = mr_wp 100 25 [v0, v1, v2, .int x] (.int x :: st) h Q) ∧
    (∀ (v0 v1 v2 v3 : Value) (a0 : Int32) (a1 : Int32) (a2 : Int32) (o : Nat) (h : mr_h) (Q : Option Value → mr_h → Prop), mr_wp 100 25 [v0, v1, v2, v3] [.int a2, .int a1, .int a0, .ref o] h Q = mr_rc (h.1 o) 8 (mr_run 101 [.ref o, .int a0, .int a1, .int a2] h (fun v h' => mr_wp 100 28 [v0, v1, v2, v3] (v.toList ++ []) h' Q))) ∧
    (∀ (v0 v1 v2 v3 : Value) (x : Int32) (st : List Value) (h : mr_h) (Q : Option Value → mr_h → Prop), mr_wp 100 28 [v0, v1, v2, v3] (.int x :: st) h Q = if x = 0 then mr_wp 100 41 [v0, v1, v2, v3] st h Q else mr_wp 100 31 [v0, v1, v2, v3] st h Q) ∧
    (∀ (v1 v2 v3 : Value) (x : Nat) (st : List Value) (h : mr_h) (Q : Option Value → mr_h → Prop), mr_wp 100 31 [.ref x, v1, v2, v3] st h Q = mr_wp 100 32 [.ref x, v1, v2, v3] (.ref x :: st) h Q) ∧
    (∀ (v0 v1 v2 v3 : Value) (a : Nat) (st : List Value) (h : mr_h) (Q : Option Value → mr_h → Prop), mr_wp 100 32 [v0, v1, v2, v3] (.ref a :: st) h Q = mr_gf (h.1 a) 10 8 (fun v => mr_wp 100 35 [v0, v1, v2, v3] (v :: st) h Q)) ∧
    (∀ (v0 v1 v2 v3 : Value) (a : Nat) (st : List Value) (h : mr_h) (Q : Option Value → mr_h → Prop), mr_wp 100 35 [v0, v1, v2, v3] (.ref a :: st) h Q = mr_gf (h.1 a) 8 0 (fun v => mr_wp 100 38 [v0, v1, v2, v3] (v :: st) h Q)) ∧
    (∀ (v0 v1 v2 v3 : Value) (st : List Value) (h : mr_h) (Q : Option Value → mr_h → Prop), mr_wp 100 38 [v0, v1, v2, v3] st h Q = mr_wp 100 43 [v0, v1, v2, v3] st h Q) ∧
    (∀ (v0 v1 v2 v3 : Value) (st : List Value) (h : mr_h) (Q : Option Value → mr_h → Prop), mr_wp 100 41 [v0, v1, v2, v3] st h Q = mr_wp 100 43 [v0, v1, v2, v3] (.int (-3) :: st) h Q) ∧
    (∀ (v0 v1 v2 v3 : Value) (x : Int32) (h : mr_h) (Q : Option Value → mr_h → Prop), mr_wp 100 43 [v0, v1, v2, v3] [.int x] h Q = Q (some (.int x)) h) :=
  ⟨fun v1 v2 v3 x st h Q => gx_one (i := .aload_n 0) (len := 1) (by decide +kernel) rfl,
   fun v0 v2 v3 x st h Q => gx_one (i := .iload_n 1) (len := 1) (by decide +kernel) rfl,
   fun v0 v1 v3 x st h Q => gx_one (i := .iload_n 2) (len := 1) (by decide +kernel) rfl,
   fun v0 v1 v2 v3 a0 a1 o h Q => gx_virt (x := 182) (n := 2) (by decide +kernel) (by decide +kernel) rfl (Or.inl (Nat.le_of_ble_eq_true rfl)) (by show _ ≤ mr_mxl 47; rw [show mr_mxl 47 = 3 from by decide +kernel]; exact Nat.le_of_ble_eq_true rfl) (by decide +kernel),
   fun v0 v1 v2 v3 x st h Q => gx_br (i := .ifCond .eq 10) (len := 3) (c := .eq) (by decide +kernel) rfl rfl,
   fun v0 v1 v2 x st h Q => gx_one (i := .iload_n 3) (len := 1) (by decide +kernel) rfl,
   fun v0 v1 v2 v3 a0 h Q => gx_stat (x := 196) (t := 82) (n := 1) (by decide +kernel) (by decide +kernel) (by decide) (by decide +kernel) rfl (Or.inl (Nat.le_of_ble_eq_true rfl)) (by show _ ≤ mr_mxl 82; rw [show mr_mxl 82 = 1 from by decide +kernel]; exact Nat.le_of_ble_eq_true rfl),
   fun v0 v1 v2 v3 x st h Q => gx_br (i := .ifCond .ne 5) (len := 3) (c := .ne) (by decide +kernel) rfl rfl,
   fun v0 v1 v2 v3 st h Q => gx_one (i := .iconst (-1)) (len := 1) (by decide +kernel) rfl,
   fun v0 v1 v2 v3 x h Q => gx_ret (i := .ireturn) (len := 1) (by decide +kernel) rfl rfl (by simp only [mr_rt, if_pos]; rw [if_pos (Or.inl (by decide +kernel))]),
   fun v1 v2 v3 x st h Q => gx_one (i := .aload_n 0) (len := 1) (by decide +kernel) rfl,
   fun v0 v1 v2 v3 a st h Q => gx_get (x := 64) (by decide +kernel) (by decide +kernel),
   fun v0 v2 v3 x st h Q => gx_one (i := .iload_n 1) (len := 1) (by decide +kernel) rfl,
   fun v0 v1 v3 x st h Q => gx_one (i := .iload_n 2) (len := 1) (by decide +kernel) rfl,
   fun v0 v1 v2 x st h Q => gx_one (i := .iload_n 3) (len := 1) (by decide +kernel) rfl,
   fun v0 v1 v2 v3 a0 a1 a2 o h Q => gx_virt (x := 228) (n := 3) (by decide +kernel) (by decide +kernel) rfl (Or.inl (Nat.le_of_ble_eq_true rfl)) (by show _ ≤ mr_mxl 101; rw [show mr_mxl 101 = 4 from by decide +kernel]; exact Nat.le_of_ble_eq_true rfl) (by decide +kernel),
   fun v0 v1 v2 v3 x st h Q => gx_br (i := .ifCond .eq 13) (len := 3) (c := .eq) (by decide +kernel) rfl rfl,
   fun v1 v2 v3 x st h Q => gx_one (i := .aload_n 0) (len := 1) (by decide +kernel) rfl,
   fun v0 v1 v2 v3 a st h Q => gx_get (x := 64) (by decide +kernel) (by decide +kernel),
   fun v0 v1 v2 v3 a st h Q => gx_get (x := 101) (by decide +kernel) (by decide +kernel),
   fun v0 v1 v2 v3 st h Q => gx_one (i := .goto 5) (len := 3) (by decide +kernel) rfl,
   fun v0 v1 v2 v3 st h Q => gx_one (i := .bipush (-3)) (len := 2) (by decide +kernel) rfl,
   fun v0 v1 v2 v3 x h Q => gx_ret (i := .ireturn) (len := 1) (by decide +kernel) rfl rfl (by simp only [mr_rt, if_pos]; rw [if_pos (Or.inl (by decide +kernel))])⟩
theorem S_si_append : (∀ (v1 v2 v3 : Value) (x : Nat) (st : List Value) (h : mr_h) (Q : Option Value → mr_h → Prop), mr_wp 101 0 [.ref x, v1, v2, v3] st h Q = mr_wp 101 1 [.ref x, v1, v2, v3] (.ref x :: st) h Q) ∧
    (∀ (v0 v1 v2 v3 : Value) (a : Nat) (st : List Value) (h : mr_h) (Q : Option Value → mr_h → Prop), mr_wp 101 1 [v0, v1, v2, v3] (.ref a :: st) h Q = mr_gf (h.1 a) 8 0 (fun v => mr_wp 101 4 [v0, v1, v2, v3] (v :: st) h Q)) ∧
    (∀ (v0 v1 v2 v3 : Value) (st : List Value) (h : mr_h) (Q : Option Value → mr_h → Prop), mr_wp 101 4 [v0, v1, v2, v3] st h Q = mr_wp 101 6 [v0, v1, v2, v3] (.int (6) :: st) h Q) ∧
    (∀ (v0 v1 v2 v3 : Value) (x : Int32) (y : Int32) (st : List Value) (h : mr_h) (Q : Option Value → mr_h → Prop), mr_wp 101 6 [v0, v1, v2, v3] (.int y :: .int x :: st) h Q = if x < y then mr_wp 101 11 [v0, v1, v2, v3] st h Q else mr_wp 101 9 [v0, v1, v2, v3] st h Q) ∧
    (∀ (v0 v1 v2 v3 : Value) (st : List Value) (h : mr_h) (Q : Option Value → mr_h → Prop), mr_wp 101 9 [v0, v1, v2, v3] st h Q = mr_wp 101 10 [v0, v1, v2, v3] (.int (0) :: st) h Q) ∧
    (∀ (v0 v1 v2 v3 : Value) (x : Int32) (h : mr_h) (Q : Option Value → mr_h → Prop) (hv : x &&& 1 = x), mr_wp 101 10 [v0, v1, v2, v3] [.int x] h Q = Q (some (.int x)) h) ∧
    (∀ (v1 v2 v3 : Value) (x : Nat) (st : List Value) (h : mr_h) (Q : Option Value → mr_h → Prop), mr_wp 101 11 [.ref x, v1, v2, v3] st h Q = mr_wp 101 12 [.ref x, v1, v2, v3] (.ref x :: st) h Q) ∧
    (∀ (v0 v1 v2 v3 : Value) (a : Nat) (st : List Value) (h : mr_h) (Q : Option Value → mr_h → Prop), mr_wp 101 12 [v0, v1, v2, v3] (.ref a :: st) h Q = mr_gf (h.1 a) 8 1 (fun v => mr_wp 101 15 [v0, v1, v2, v3] (v :: st) h Q)) ∧
    (∀ (v1 v2 v3 : Value) (x : Nat) (st : List Value) (h : mr_h) (Q : Option Value → mr_h → Prop), mr_wp 101 15 [.ref x, v1, v2, v3] st h Q = mr_wp 101 16 [.ref x, v1, v2, v3] (.ref x :: st) h Q) ∧
    (∀ (v0 v1 v2 v3 : Value) (a : Nat) (st : List Value) (h : mr_h) (Q : Option Value → mr_h → Prop), mr_wp 101 16 [v0, v1, v2, v3] (.ref a :: st) h Q = mr_gf (h.1 a) 8 0 (fun v => mr_wp 101 19 [v0, v1, v2, v3] (v :: st) h Q)) ∧
    (∀ (v0 v2 v3 : Value) (x : Int32) (st : List Value) (h : mr_h) (Q : Option Value → mr_h → Prop), mr_wp 101 19 [v0, .int x, v2, v3] st h Q = mr_wp 101 20 [v0, .int x, v2, v3] (.int x :: st) h Q) ∧
    (∀ (v0 v1 v2 v3 : Value) (a : Nat) (x : Int32) (y : Int32) (st : List Value) (h : mr_h) (Q : Option Value → mr_h → Prop), mr_wp 101 20 [v0, v1, v2, v3] (.int y :: .int x :: .ref a :: st) h Q = mr_si (h.1 a) x y (fun c => mr_wp 101 21 [v0, v1, v2, v3] st (mr_up h a c) Q)) ∧
    (∀ (v1 v2 v3 : Value) (x : Nat) (st : List Value) (h : mr_h) (Q : Option Value → mr_h → Prop), mr_wp 101 21 [.ref x, v1, v2, v3] st h Q = mr_wp 101 22 [.ref x, v1, v2, v3] (.ref x :: st) h Q) ∧
    (∀ (v0 v1 v2 v3 : Value) (a : Nat) (st : List Value) (h : mr_h) (Q : Option Value → mr_h → Prop), mr_wp 101 22 [v0, v1, v2, v3] (.ref a :: st) h Q = mr_gf (h.1 a) 8 2 (fun v => mr_wp 101 25 [v0, v1, v2, v3] (v :: st) h Q)) ∧
    (∀ (v1 v2 v3 : Value) (x : Nat) (st : List Value) (h : mr_h) (Q : Option Value → mr_h → Prop), mr_wp 101 25 [.ref x, v1, v2, v3] st h Q = mr_wp 101 26 [.ref x, v1, v2, v3] (.ref x :: st) h Q) ∧
    (∀ (v0 v1 v2 v3 : Value) (a : Nat) (st : List Value) (h : mr_h) (Q : Option Value → mr_h → Prop), mr_wp 101 26 [v0, v1, v2, v3] (.ref a :: st) h Q = mr_gf (h.1 a) 8 0 (fun v => mr_wp 101 29 [v0, v1, v2, v3] (v :: st) h Q)) ∧
    (∀ (v0 v1 v3 : Value) (x : Int32) (st : List Value) (h : mr_h) (Q : Option Value → mr_h → Prop), mr_wp 101 29 [v0, v1, .int x, v3] st h Q = mr_wp 101 30 [v0, v1, .int x, v3] (.int x :: st) h Q) ∧
    (∀ (v0 v1 v2 v3 : Value) (a : Nat) (x : Int32) (y : Int32) (st : List Value) (h : mr_h) (Q : Option Value → mr_h → Prop), mr_wp 101 30 [v0, v1, v2, v3] (.int y :: .int x :: .ref a :: st) h Q = mr_si (h.1 a) x y (fun c => mr_wp 101 31 [v0, v1, v2, v3] st (mr_up h a c) Q)) ∧
    (∀ (v1 v2 v3 : Value) (x : Nat) (st : List Value) (h : mr_h) (Q : Option Value → mr_h → Prop), mr_wp 101 31 [.ref x, v1, v2, v3] st h Q = mr_wp 101 32 [.ref x, v1, v2, v3] (.ref x :: st) h Q) ∧
    (∀ (v0 v1 v2 v3 : Value) (a : Nat) (st : List Value) (h : mr_h) (Q : Option Value → mr_h → Prop), mr_wp 101 32 [v0, v1, v2, v3] (.ref a :: st) h Q = mr_gf (h.1 a) 8 3 (fun v => mr_wp 101 35 [v0, v1, v2, v3] (v :: st) h Q)) ∧
    (∀ (v1 v2 v3 : Value) (x : Nat) (st : List Value) (h : mr_h) (Q : Option Value → mr_h → Prop), mr_wp 101 35 [.ref x, v1, v2, v3] st h Q = mr_wp 101 36 [.ref x, v1, v2, v3] (.ref x :: st) h Q) ∧
    (∀ (v0 v1 v2 v3 : Value) (a : Nat) (st : List Value) (h : mr_h) (Q : Option Value → mr_h → Prop), mr_wp 101 36 [v0, v1, v2, v3] (.ref a :: st) h Q = mr_gf (h.1 a) 8 0 (fun v => mr_wp 101 39 [v0, v1, v2, v3] (v :: st) h Q)) ∧
    (∀ (v0 v1 v2 : Value) (x : Int32) (st : List Value) (h : mr_h) (Q : Option Value → mr_h → Prop), mr_wp 101 39 [v0, v1, v2, .int x] st h Q = mr_wp 101 40 [v0, v1, v2, .int x] (.int x :: st) h Q) ∧
    (∀ (v0 v1 v2 v3 : Value) (a : Nat) (x : Int32) (y : Int32) (st : List Value) (h : mr_h) (Q : Option Value → mr_h → Prop), mr_wp 101 40 [v0, v1, v2, v3] (.int y :: .int x :: .ref a :: st) h Q = mr_si (h.1 a) x y (fun c => mr_wp 101 41 [v0, v1, v2, v3] st (mr_up h a c) Q)) ∧
    (∀ (v1 v2 v3 : Value) (x : Nat) (st : List Value) (h : mr_h) (Q : Option Value → mr_h → Prop), mr_wp 101 41 [.ref x, v1, v2, v3] st h Q = mr_wp 101 42 [.ref x, v1, v2, v3] (.ref x :: st) h Q) ∧
    (∀ (v0 v1 v2 v3 : Value) (x : Nat) (st : List Value) (h : mr_h) (Q : Option Value → mr_h → Prop), mr_wp 101 42 [v0, v1, v2, v3] (.ref x :: st) h Q = mr_wp 101 43 [v0, v1, v2, v3] (.ref x :: .ref x :: st) h Q) ∧
    (∀ (v0 v1 v2 v3 : Value) (a : Nat) (st : List Value) (h : mr_h) (Q : Option Value → mr_h → Prop), mr_wp 101 43 [v0, v1, v2, v3] (.ref a :: st) h Q = mr_gf (h.1 a) 8 0 (fun v => mr_wp 101 46 [v0, v1, v2, v3] (v :: st) h Q)) ∧
    (∀ (v0 v1 v2 v3 : Value) (st : List Value) (h : mr_h) (Q : Option Value → mr_h → Prop), mr_wp 101 46 [v0, v1, v2, v3] st h Q = mr_wp 101 47 [v0, v1, v2, v3] (.int (1) :: st) h Q) ∧
    (∀ (v0 v1 v2 v3 : Value) (x : Int32) (y : Int32) (st : List Value) (h : mr_h) (Q : Option Value → mr_h → Prop), mr_wp 101 47 [v0, v1, v2, v3] (.int y :: .int x :: st) h Q = mr_wp 101 48 [v0, v1, v2, v3] (.int (x + y) :: st) h Q) ∧
    (∀ (v0 v1 v2 v3 : Value) (a : Nat) (x : Int32) (st : List Value) (h : mr_h) (Q : Option Value → mr_h → Prop), mr_wp 101 48 [v0, v1, v2, v3] (.int x :: .ref a :: st) h Q = mr_pf (h.1 a) 8 0 (.int x) (fun c => mr_wp 101 51 [v0, v1, v2, v3] st (mr_up h a c) Q)) ∧
    (∀ (v0 v1 v2 v3 : Value) (st : List Value) (h : mr_h) (Q : Option Value → mr_h → Prop), mr_wp 101 51 [v0, v1, v2, v3] st h Q = mr_wp 101 52 [v0, v1, v2, v3] (.int (1) :: st) h Q) ∧
    (∀ (v0 v1 v2 v3 : Value) (x : Int32) (h : mr_h) (Q : Option Value → mr_h → Prop) (hv : x &&& 1 = x), mr_wp 101 52 [v0, v1, v2, v3] [.int x] h Q = Q (some (.int x)) h) :=
  ⟨fun v1 v2 v3 x st h Q => gx_one (i := .aload_n 0) (len := 1) (by decide +kernel) rfl,
   fun v0 v1 v2 v3 a st h Q => gx_get (x := 9) (by decide +kernel) (by decide +kernel),
   fun v0 v1 v2 v3 st h Q => gx_one (i := .bipush 6) (len := 2) (by decide +kernel) rfl,
   fun v0 v1 v2 v3 x y st h Q => gx_br (i := .if_icmp .lt 5) (len := 3) (c := .lt) (by decide +kernel) rfl rfl,
   fun v0 v1 v2 v3 st h Q => gx_one (i := .iconst 0) (len := 1) (by decide +kernel) rfl,
   fun v0 v1 v2 v3 x h Q hv => gx_ret (i := .ireturn) (len := 1) (by decide +kernel) rfl rfl (by simp only [mr_rt, if_pos]; rw [if_pos (Or.inr ⟨by decide +kernel, hv⟩)]),
   fun v1 v2 v3 x st h Q => gx_one (i := .aload_n 0) (len := 1) (by decide +kernel) rfl,
   fun v0 v1 v2 v3 a st h Q => gx_get (x := 15) (by decide +kernel) (by decide +kernel),
   fun v1 v2 v3 x st h Q => gx_one (i := .aload_n 0) (len := 1) (by decide +kernel) rfl,
   fun v0 v1 v2 v3 a st h Q => gx_get (x := 9) (by decide +kernel) (by decide +kernel),
   fun v0 v2 v3 x st h Q => gx_one (i := .iload_n 1) (len := 1) (by decide +kernel) rfl,
   fun v0 v1 v2 v3 a x y st h Q => gx_iast (by decide +kernel),
   fun v1 v2 v3 x st h Q => gx_one (i := .aload_n 0) (len := 1) (by decide +kernel) rfl,
   fun v0 v1 v2 v3 a st h Q => gx_get (x := 19) (by decide +kernel) (by decide +kernel),
   fun v1 v2 v3 x st h Q => gx_one (i := .aload_n 0) (len := 1) (by decide +kernel) rfl,
   fun v0 v1 v2 v3 a st h Q => gx_get (x := 9) (by decide +kernel) (by decide +kernel),
   fun v0 v1 v3 x st h Q => gx_one (i := .iload_n 2) (len := 1) (by decide +kernel) rfl,
   fun v0 v1 v2 v3 a x y st h Q => gx_iast (by decide +kernel),
   fun v1 v2 v3 x st h Q => gx_one (i := .aload_n 0) (len := 1) (by decide +kernel) rfl,
   fun v0 v1 v2 v3 a st h Q => gx_get (x := 22) (by decide +kernel) (by decide +kernel),
   fun v1 v2 v3 x st h Q => gx_one (i := .aload_n 0) (len := 1) (by decide +kernel) rfl,
   fun v0 v1 v2 v3 a st h Q => gx_get (x := 9) (by decide +kernel) (by decide +kernel),
   fun v0 v1 v2 x st h Q => gx_one (i := .iload_n 3) (len := 1) (by decide +kernel) rfl,
   fun v0 v1 v2 v3 a x y st h Q => gx_iast (by decide +kernel),
   fun v1 v2 v3 x st h Q => gx_one (i := .aload_n 0) (len := 1) (by decide +kernel) rfl,
   fun v0 v1 v2 v3 x st h Q => gx_one (i := .dup) (len := 1) (by decide +kernel) rfl,
   fun v0 v1 v2 v3 a st h Q => gx_get (x := 9) (by decide +kernel) (by decide +kernel),
   fun v0 v1 v2 v3 st h Q => gx_one (i := .iconst 1) (len := 1) (by decide +kernel) rfl,
   fun v0 v1 v2 v3 x y st h Q => gx_one (i := .iadd) (len := 1) (by decide +kernel) rfl,
   fun v0 v1 v2 v3 a x st h Q => gx_put (x := 9) (by decide +kernel) (by decide +kernel) ⟨rfl, Or.inl rfl⟩,
   fun v0 v1 v2 v3 st h Q => gx_one (i := .iconst 1) (len := 1) (by decide +kernel) rfl,
   fun v0 v1 v2 v3 x h Q hv => gx_ret (i := .ireturn) (len := 1) (by decide +kernel) rfl rfl (by simp only [mr_rt, if_pos]; rw [if_pos (Or.inr ⟨by decide +kernel, hv⟩)])⟩
theorem S_rl_forget : (∀ (v1 : Value) (x : Nat) (st : List Value) (h : mr_h) (Q : Option Value → mr_h → Prop), mr_wp 102 0 [.ref x, v1] st h Q = mr_wp 102 1 [.ref x, v1] (.ref x :: st) h Q) ∧
    (∀ (v0 v1 : Value) (a : Nat) (st : List Value) (h : mr_h) (Q : Option Value → mr_h → Prop), mr_wp 102 1 [v0, v1] (.ref a :: st) h Q = mr_gf (h.1 a) 10 8 (fun v => mr_wp 102 4 [v0, v1] (v :: st) h Q)) ∧
    (∀ (v0 v1 : Value) (a : Nat) (st : List Value) (h : mr_h) (Q : Option Value → mr_h → Prop), mr_wp 102 4 [v0, v1] (.ref a :: st) h Q = mr_gf (h.1 a) 8 0 (fun v => mr_wp 102 7 [v0, v1] (v :: st) h Q)) ∧
    (∀ (v1 : Value) (w0 : Nat) (x : Int32) (st : List Value) (h : mr_h) (Q : Option Value → mr_h → Prop), mr_wp 102 7 [.ref w0, v1] (.int x :: st) h Q = mr_wp 102 8 [.ref w0, .int x] st h Q) ∧
    (∀ (v1 : Value) (x : Nat) (st : List Value) (h : mr_h) (Q : Option Value → mr_h → Prop), mr_wp 102 8 [.ref x, v1] st h Q = mr_wp 102 9 [.ref x, v1] (.ref x :: st) h Q) ∧
    (∀ (v0 v1 : Value) (a : Nat) (st : List Value) (h : mr_h) (Q : Option Value → mr_h → Prop), mr_wp 102 9 [v0, v1] (.ref a :: st) h Q = mr_gf (h.1 a) 10 8 (fun v => mr_wp 102 12 [v0, v1] (v :: st) h Q)) ∧
    (∀ (v0 v1 : Value) (st : List Value) (h : mr_h) (Q : Option Value → mr_h → Prop), mr_wp 102 12 [v0, v1] st h Q = mr_wp 102 13 [v0, v1] (.int (0) :: st) h Q) ∧
    (∀ (v0 v1 : Value) (a : Nat) (x : Int32) (st : List Value) (h : mr_h) (Q : Option Value → mr_h → Prop), mr_wp 102 13 [v0, v1] (.int x :: .ref a :: st) h Q = mr_pf (h.1 a) 8 0 (.int x) (fun c => mr_wp 102 16 [v0, v1] st (mr_up h a c) Q)) ∧
    (∀ (v0 : Value) (x : Int32) (st : List Value) (h : mr_h) (Q : Option Value → mr_h → Prop), mr_wp 102 16 [v0, .int x] st h Q = mr_wp 102 17 [v0, .int x] (.int x :: st) h Q) ∧
    (∀ (v0 v1 : Value) (x : Int32) (h : mr_h) (Q : Option Value → mr_h → Prop), mr_wp 102 17 [v0, v1] [.int x] h Q = Q (some (.int x)) h) :=
  ⟨fun v1 x st h Q => gx_one (i := .aload_n 0) (len := 1) (by decide +kernel) rfl,
   fun v0 v1 a st h Q => gx_get (x := 64) (by decide +kernel) (by decide +kernel),
   fun v0 v1 a st h Q => gx_get (x := 101) (by decide +kernel) (by decide +kernel),
   fun v1 w0 x st h Q => gx_one (i := .istore_n 1) (len := 1) (by decide +kernel) rfl,
   fun v1 x st h Q => gx_one (i := .aload_n 0) (len := 1) (by decide +kernel) rfl,
   fun v0 v1 a st h Q => gx_get (x := 64) (by decide +kernel) (by decide +kernel),
   fun v0 v1 st h Q => gx_one (i := .iconst 0) (len := 1) (by decide +kernel) rfl,
   fun v0 v1 a x st h Q => gx_put (x := 101) (by decide +kernel) (by decide +kernel) ⟨rfl, Or.inl rfl⟩,
   fun v0 x st h Q => gx_one (i := .iload_n 1) (len := 1) (by decide +kernel) rfl,
   fun v0 v1 x h Q => gx_ret (i := .ireturn) (len := 1) (by decide +kernel) rfl rfl (by simp only [mr_rt, if_pos]; rw [if_pos (Or.inl (by decide +kernel))])⟩
theorem S_rl_unseen : (∀ (v0 : Value) (x : Int32) (st : List Value) (h : mr_h) (Q : Option Value → mr_h → Prop), mr_wp 103 0 [v0, .int x] st h Q = mr_wp 103 1 [v0, .int x] (.int x :: st) h Q) ∧
    (∀ (v0 v1 : Value) (a0 : Int32) (h : mr_h) (Q : Option Value → mr_h → Prop), mr_wp 103 1 [v0, v1] [.int a0] h Q = mr_run 82 [.int a0] h (fun v h' => mr_wp 103 4 [v0, v1] (v.toList ++ []) h' Q)) ∧
    (∀ (v0 v1 : Value) (x : Int32) (st : List Value) (h : mr_h) (Q : Option Value → mr_h → Prop), mr_wp 103 4 [v0, v1] (.int x :: st) h Q = if ¬ x = 0 then mr_wp 103 9 [v0, v1] st h Q else mr_wp 103 7 [v0, v1] st h Q) ∧
    (∀ (v0 v1 : Value) (st : List Value) (h : mr_h) (Q : Option Value → mr_h → Prop), mr_wp 103 7 [v0, v1] st h Q = mr_wp 103 8 [v0, v1] (.int (-1) :: st) h Q) ∧
    (∀ (v0 v1 : Value) (x : Int32) (h : mr_h) (Q : Option Value → mr_h → Prop), mr_wp 103 8 [v0, v1] [.int x] h Q = Q (some (.int x)) h) ∧
    (∀ (v1 : Value) (x : Nat) (st : List Value) (h : mr_h) (Q : Option Value → mr_h → Prop), mr_wp 103 9 [.ref x, v1] st h Q = mr_wp 103 10 [.ref x, v1] (.ref x :: st) h Q) ∧
    (∀ (v0 v1 : Value) (a : Nat) (st : List Value) (h : mr_h) (Q : Option Value → mr_h → Prop), mr_wp 103 10 [v0, v1] (.ref a :: st) h Q = mr_gf (h.1 a) 10 8 (fun v => mr_wp 103 13 [v0, v1] (v :: st) h Q)) ∧
    (∀ (v1 : Value) (x : Nat) (st : List Value) (h : mr_h) (Q : Option Value → mr_h → Prop), mr_wp 103 13 [.ref x, v1] st h Q = mr_wp 103 14 [.ref x, v1] (.ref x :: st) h Q) ∧
    (∀ (v0 v1 : Value) (a : Nat) (st : List Value) (h : mr_h) (Q : Option Value → mr_h → Prop), mr_wp 103 14 [v0, v1] (.ref a :: st) h Q = mr_gf (h.1 a) 10 0 (fun v => mr_wp 103 17 [v0, v1] (v :: st) h Q)) ∧
    (∀ (v1 : Value) (x : Nat) (st : List Value) (h : mr_h) (Q : Option Value → mr_h → Prop), mr_wp 103 17 [.ref x, v1] st h Q = mr_wp 103 18 [.ref x, v1] (.ref x :: st) h Q) ∧
    (∀ (v0 v1 : Value) (a : Nat) (st : List Value) (h : mr_h) (Q : Option Value → mr_h → Prop), mr_wp 103 18 [v0, v1] (.ref a :: st) h Q = mr_gf (h.1 a) 10 3 (fun v => mr_wp 103 21 [v0, v1] (v :: st) h Q)) ∧
    (∀ (v0 v1 : Value) (a0 : Nat) (a1 : Nat) (o : Nat) (h : mr_h) (Q : Option Value → mr_h → Prop), mr_wp 103 21 [v0, v1] [.ref a1, .ref a0, .ref o] h Q = mr_rc (h.1 o) 8 (mr_run 104 [.ref o, .ref a0, .ref a1] h (fun v h' => mr_wp 103 24 [v0, v1] (v.toList ++ []) h' Q))) ∧
    (∀ (v0 : Value) (x : Int32) (st : List Value) (h : mr_h) (Q : Option Value → mr_h → Prop), mr_wp 103 24 [v0, .int x] st h Q = mr_wp 103 25 [v0, .int x] (.int x :: st) h Q) ∧
    (∀ (v0 v1 : Value) (x : Int32) (st : List Value) (h : mr_h) (Q : Option Value → mr_h → Prop), mr_wp 103 25 [v0, v1] (.int x :: st) h Q = if ¬ x = 0 then mr_wp 103 38 [v0, v1] st h Q else mr_wp 103 28 [v0, v1] st h Q) ∧
    (∀ (v1 : Value) (x : Nat) (st : List Value) (h : mr_h) (Q : Option Value → mr_h → Prop), mr_wp 103 28 [.ref x, v1] st h Q = mr_wp 103 29 [.ref x, v1] (.ref x :: st) h Q) ∧
    (∀ (v0 v1 : Value) (a : Nat) (st : List Value) (h : mr_h) (Q : Option Value → mr_h → Prop), mr_wp 103 29 [v0, v1] (.ref a :: st) h Q = mr_gf (h.1 a) 10 8 (fun v => mr_wp 103 32 [v0, v1] (v :: st) h Q)) ∧
    (∀ (v0 v1 : Value) (o : Nat) (h : mr_h) (Q : Option Value → mr_h → Prop), mr_wp 103 32 [v0, v1] [.ref o] h Q = mr_rc (h.1 o) 8 (mr_run 106 [.ref o] h (fun v h' => mr_wp 103 35 [v0, v1] (v.toList ++ []) h' Q))) ∧
    (∀ (v0 v1 : Value) (st : List Value) (h : mr_h) (Q : Option Value → mr_h → Prop), mr_wp 103 35 [v0, v1] st h Q = mr_wp 103 45 [v0, v1] st h Q) ∧
    (∀ (v1 : Value) (x : Nat) (st : List Value) (h : mr_h) (Q : Option Value → mr_h → Prop), mr_wp 103 38 [.ref x, v1] st h Q = mr_wp 103 39 [.ref x, v1] (.ref x :: st) h Q) ∧
    (∀ (v0 v1 : Value) (a : Nat) (st : List Value) (h : mr_h) (Q : Option Value → mr_h → Prop), mr_wp 103 39 [v0, v1] (.ref a :: st) h Q = mr_gf (h.1 a) 10 8 (fun v => mr_wp 103 42 [v0, v1] (v :: st) h Q)) ∧
    (∀ (v0 v1 : Value) (o : Nat) (h : mr_h) (Q : Option Value → mr_h → Prop), mr_wp 103 42 [v0, v1] [.ref o] h Q = mr_rc (h.1 o) 8 (mr_run 107 [.ref o] h (fun v h' => mr_wp 103 45 [v0, v1] (v.toList ++ []) h' Q))) ∧
    (∀ (v0 v1 : Value) (x : Int32) (h : mr_h) (Q : Option Value → mr_h → Prop), mr_wp 103 45 [v0, v1] [.int x] h Q = Q (some (.int x)) h) :=
  ⟨fun v0 x st h Q => gx_one (i := .iload_n 1) (len := 1) (by decide +kernel) rfl,
   fun v0 v1 a0 h Q => gx_stat (x := 196) (t := 82) (n := 1) (by decide +kernel) (by decide +kernel) (by decide) (by decide +kernel) rfl (Or.inl (Nat.le_of_ble_eq_true rfl)) (by show _ ≤ mr_mxl 82; rw [show mr_mxl 82 = 1 from by decide +kernel]; exact Nat.le_of_ble_eq_true rfl),
   fun v0 v1 x st h Q => gx_br (i := .ifCond .ne 5) (len := 3) (c := .ne) (by decide +kernel) rfl rfl,
   fun v0 v1 st h Q => gx_one (i := .iconst (-1)) (len := 1) (by decide +kernel) rfl,
   fun v0 v1 x h Q => gx_ret (i := .ireturn) (len := 1) (by decide +kernel) rfl rfl (by simp only [mr_rt, if_pos]; rw [if_pos (Or.inl (by decide +kernel))]),
   fun v1 x st h Q => gx_one (i := .aload_n 0) (len := 1) (by decide +kernel) rfl,
   fun v0 v1 a st h Q => gx_get (x := 64) (by decide +kernel) (by decide +kernel),
   fun v1 x st h Q => gx_one (i := .aload_n 0) (len := 1) (by decide +kernel) rfl,
   fun v0 v1 a st h Q => gx_get (x := 10) (by decide +kernel) (by decide +kernel),
   fun v1 x st h Q => gx_one (i := .aload_n 0) (len := 1) (by decide +kernel) rfl,
   fun v0 v1 a st h Q => gx_get (x := 29) (by decide +kernel) (by decide +kernel),
   fun v0 v1 a0 a1 o h Q => gx_virt (x := 231) (n := 2) (by decide +kernel) (by decide +kernel) rfl (Or.inl (Nat.le_of_ble_eq_true rfl)) (by show _ ≤ mr_mxl 104; rw [show mr_mxl 104 = 6 from by decide +kernel]; exact Nat.le_of_ble_eq_true rfl) (by decide +kernel),
   fun v0 x st h Q => gx_one (i := .iload_n 1) (len := 1) (by decide +kernel) rfl,
   fun v0 v1 x st h Q => gx_br (i := .ifCond .ne 13) (len := 3) (c := .ne) (by decide +kernel) rfl rfl,
   fun v1 x st h Q => gx_one (i := .aload_n 0) (len := 1) (by decide +kernel) rfl,
   fun v0 v1 a st h Q => gx_get (x := 64) (by decide +kernel) (by decide +kernel),
   fun v0 v1 o h Q => gx_virt (x := 235) (n := 0) (by decide +kernel) (by decide +kernel) rfl (Or.inl (Nat.le_of_ble_eq_true rfl)) (by show _ ≤ mr_mxl 106; rw [show mr_mxl 106 = 3 from by decide +kernel]; exact Nat.le_of_ble_eq_true rfl) (by decide +kernel),
   fun v0 v1 st h Q => gx_one (i := .goto 10) (len := 3) (by decide +kernel) rfl,
   fun v1 x st h Q => gx_one (i := .aload_n 0) (len := 1) (by decide +kernel) rfl,
   fun v0 v1 a st h Q => gx_get (x := 64) (by decide +kernel) (by decide +kernel),
   fun v0 v1 o h Q => gx_virt (x := 238) (n := 0) (by decide +kernel) (by decide +kernel) rfl (Or.inl (Nat.le_of_ble_eq_true rfl)) (by show _ ≤ mr_mxl 107; rw [show mr_mxl 107 = 2 from by decide +kernel]; exact Nat.le_of_ble_eq_true rfl) (by decide +kernel),
   fun v0 v1 x h Q => gx_ret (i := .ireturn) (len := 1) (by decide +kernel) rfl rfl (by simp only [mr_rt, if_pos]; rw [if_pos (Or.inl (by decide +kernel))])⟩
theorem s_si_sift_10 (v0 v1 v2 v4 v5 : Value) (x : Int32) (st : List Value) (h : mr_h) (Q : Option Value → mr_h → Prop) : mr_wp 104 10 [v0, v1, v2, .int x, v4, v5] st h Q = mr_wp 104 11 [v0, v1, v2, .int x, v4, v5] (.int x :: st) h Q := gx_one (i := .iload_n 3) (len := 1) (by decide +kernel) rfl
theorem s_si_sift_32 (v0 v1 v2 v3 v5 : Value) (x : Int32) (st : List Value) (h : mr_h) (Q : Option Value → mr_h → Prop) : mr_wp 104 32 [v0, v1, v2, v3, .int x, v5] st h Q = mr_wp 104 34 [v0, v1, v2, v3, .int x, v5] (.int x :: st) h Q := gx_one (i := .iload 4) (len := 2) (by decide +kernel) rfl
theorem S_si_sift_0 : (∀ (v1 v2 v3 v4 v5 : Value) (x : Nat) (st : List Value) (h : mr_h) (Q : Option Value → mr_h → Prop), mr_wp 104 0 [.ref x, v1, v2, v3, v4, v5] st h Q = mr_wp 104 1 [.ref x, v1, v2, v3, v4, v5] (.ref x :: st) h Q) ∧
    (∀ (v0 v2 v3 v4 v5 : Value) (x : Nat) (st : List Value) (h : mr_h) (Q : Option Value → mr_h → Prop), mr_wp 104 1 [v0, .ref x, v2, v3, v4, v5] st h Q = mr_wp 104 2 [v0, .ref x, v2, v3, v4, v5] (.ref x :: st) h Q) ∧
    (∀ (v0 v1 v2 v3 v4 v5 : Value) (a : Nat) (st : List Value) (h : mr_h) (Q : Option Value → mr_h → Prop), mr_wp 104 2 [v0, v1, v2, v3, v4, v5] (.ref a :: st) h Q = mr_gf (h.1 a) 3 0 (fun v => mr_wp 104 5 [v0, v1, v2, v3, v4, v5] (v :: st) h Q)) ∧
    (∀ (v0 v1 v2 v3 v4 v5 : Value) (a : Nat) (x : Int32) (st : List Value) (h : mr_h) (Q : Option Value → mr_h → Prop), mr_wp 104 5 [v0, v1, v2, v3, v4, v5] (.int x :: .ref a :: st) h Q = mr_pf (h.1 a) 8 5 (.int x) (fun c => mr_wp 104 8 [v0, v1, v2, v3, v4, v5] st (mr_up h a c) Q)) ∧
    (∀ (v0 v1 v2 v3 v4 v5 : Value) (st : List Value) (h : mr_h) (Q : Option Value → mr_h → Prop), mr_wp 104 8 [v0, v1, v2, v3, v4, v5] st h Q = mr_wp 104 9 [v0, v1, v2, v3, v4, v5] (.int (0) :: st) h Q) ∧
    (∀ (v0 v1 v3 v4 v5 : Value) (w2 : Nat) (x : Int32) (st : List Value) (h : mr_h) (Q : Option Value → mr_h → Prop), mr_wp 104 9 [v0, v1, .ref w2, v3, v4, v5] (.int x :: st) h Q = mr_wp 104 10 [v0, v1, .ref w2, .int x, v4, v5] st h Q) ∧
    (∀ (v1 v2 v3 v4 v5 : Value) (x : Nat) (st : List Value) (h : mr_h) (Q : Option Value → mr_h → Prop), mr_wp 104 11 [.ref x, v1, v2, v3, v4, v5] st h Q = mr_wp 104 12 [.ref x, v1, v2, v3, v4, v5] (.ref x :: st) h Q) ∧
    (∀ (v0 v1 v2 v3 v4 v5 : Value) (a : Nat) (st : List Value) (h : mr_h) (Q : Option Value → mr_h → Prop), mr_wp 104 12 [v0, v1, v2, v3, v4, v5] (.ref a :: st) h Q = mr_gf (h.1 a) 8 5 (fun v => mr_wp 104 15 [v0, v1, v2, v3, v4, v5] (v :: st) h Q)) ∧
    (∀ (v0 v1 v2 v3 v4 v5 : Value) (x : Int32) (y : Int32) (st : List Value) (h : mr_h) (Q : Option Value → mr_h → Prop), mr_wp 104 15 [v0, v1, v2, v3, v4, v5] (.int y :: .int x :: st) h Q = if y ≤ x then mr_wp 104 103 [v0, v1, v2, v3, v4, v5] st h Q else mr_wp 104 18 [v0, v1, v2, v3, v4, v5] st h Q) ∧
    (∀ (v1 v2 v3 v4 v5 : Value) (x : Nat) (st : List Value) (h : mr_h) (Q : Option Value → mr_h → Prop), mr_wp 104 18 [.ref x, v1, v2, v3, v4, v5] st h Q = mr_wp 104 19 [.ref x, v1, v2, v3, v4, v5] (.ref x :: st) h Q) ∧
    (∀ (v0 v1 v2 v3 v4 v5 : Value) (a : Nat) (st : List Value) (h : mr_h) (Q : Option Value → mr_h → Prop), mr_wp 104 19 [v0, v1, v2, v3, v4, v5] (.ref a :: st) h Q = mr_gf (h.1 a) 8 4 (fun v => mr_wp 104 22 [v0, v1, v2, v3, v4, v5] (v :: st) h Q)) ∧
    (∀ (v0 v1 v2 v4 v5 : Value) (x : Int32) (st : List Value) (h : mr_h) (Q : Option Value → mr_h → Prop), mr_wp 104 22 [v0, v1, v2, .int x, v4, v5] st h Q = mr_wp 104 23 [v0, v1, v2, .int x, v4, v5] (.int x :: st) h Q) ∧
    (∀ (v0 v2 v3 v4 v5 : Value) (x : Nat) (st : List Value) (h : mr_h) (Q : Option Value → mr_h → Prop), mr_wp 104 23 [v0, .ref x, v2, v3, v4, v5] st h Q = mr_wp 104 24 [v0, .ref x, v2, v3, v4, v5] (.ref x :: st) h Q) ∧
    (∀ (v0 v1 v2 v4 v5 : Value) (x : Int32) (st : List Value) (h : mr_h) (Q : Option Value → mr_h → Prop), mr_wp 104 24 [v0, v1, v2, .int x, v4, v5] st h Q = mr_wp 104 25 [v0, v1, v2, .int x, v4, v5] (.int x :: st) h Q) ∧
    (∀ (v0 v1 v2 v3 v4 v5 : Value) (a0 : Int32) (o : Nat) (r0 : Value) (r1 : Value) (h : mr_h) (Q : Option Value → mr_h → Prop), mr_wp 104 25 [v0, v1, v2, v3, v4, v5] [.int a0, .ref o, r0, r1] h Q = mr_rc (h.1 o) 3 (mr_run 90 [.ref o, .int a0] h (fun v h' => mr_wp 104 28 [v0, v1, v2, v3, v4, v5] (v.toList ++ [r0, r1]) h' Q))) ∧
    (∀ (v0 v1 v2 v3 v4 v5 : Value) (a : Nat) (x : Int32) (y : Int32) (st : List Value) (h : mr_h) (Q : Option Value → mr_h → Prop), mr_wp 104 28 [v0, v1, v2, v3, v4, v5] (.int y :: .int x :: .ref a :: st) h Q = mr_si (h.1 a) x y (fun c => mr_wp 104 29 [v0, v1, v2, v3, v4, v5] st (mr_up h a c) Q)) ∧
    (∀ (v0 v1 v2 v3 v4 v5 : Value) (st : List Value) (h : mr_h) (Q : Option Value → mr_h → Prop), mr_wp 104 29 [v0, v1, v2, v3, v4, v5] st h Q = mr_wp 104 30 [v0, v1, v2, v3, v4, v5] (.int (0) :: st) h Q) ∧
    (∀ (v0 v1 v2 v4 v5 : Value) (w3 : Int32) (x : Int32) (st : List Value) (h : mr_h) (Q : Option Value → mr_h → Prop), mr_wp 104 30 [v0, v1, v2, .int w3, v4, v5] (.int x :: st) h Q = mr_wp 104 32 [v0, v1, v2, .int w3, .int x, v5] st h Q) ∧
    (∀ (v1 v2 v3 v4 v5 : Value) (x : Nat) (st : List Value) (h : mr_h) (Q : Option Value → mr_h → Prop), mr_wp 104 34 [.ref x, v1, v2, v3, v4, v5] st h Q = mr_wp 104 35 [.ref x, v1, v2, v3, v4, v5] (.ref x :: st) h Q) ∧
    (∀ (v0 v1 v2 v3 v4 v5 : Value) (a : Nat) (st : List Value) (h : mr_h) (Q : Option Value → mr_h → Prop), mr_wp 104 35 [v0, v1, v2, v3, v4, v5] (.ref a :: st) h Q = mr_gf (h.1 a) 8 0 (fun v => mr_wp 104 38 [v0, v1, v2, v3, v4, v5] (v :: st) h Q)) ∧
    (∀ (v0 v1 v2 v3 v4 v5 : Value) (x : Int32) (y : Int32) (st : List Value) (h : mr_h) (Q : Option Value → mr_h → Prop), mr_wp 104 38 [v0, v1, v2, v3, v4, v5] (.int y :: .int x :: st) h Q = if y ≤ x then mr_wp 104 97 [v0, v1, v2, v3, v4, v5] st h Q else mr_wp 104 41 [v0, v1, v2, v3, v4, v5] st h Q) ∧
    (∀ (v0 v1 v3 v4 v5 : Value) (x : Nat) (st : List Value) (h : mr_h) (Q : Option Value → mr_h → Prop), mr_wp 104 41 [v0, v1, .ref x, v3, v4, v5] st h Q = mr_wp 104 42 [v0, v1, .ref x, v3, v4, v5] (.ref x :: st) h Q) ∧
    (∀ (v0 v1 v2 v4 v5 : Value) (x : Int32) (st : List Value) (h : mr_h) (Q : Option Value → mr_h → Prop), mr_wp 104 42 [v0, v1, v2, .int x, v4, v5] st h Q = mr_wp 104 43 [v0, v1, v2, .int x, v4, v5] (.int x :: st) h Q) ∧
    (∀ (v1 v2 v3 v4 v5 : Value) (x : Nat) (st : List Value) (h : mr_h) (Q : Option Value → mr_h → Prop), mr_wp 104 43 [.ref x, v1, v2, v3, v4, v5] st h Q = mr_wp 104 44 [.ref x, v1, v2, v3, v4, v5] (.ref x :: st) h Q) ∧
    (∀ (v0 v1 v2 v3 v4 v5 : Value) (a : Nat) (st : List Value) (h : mr_h) (Q : Option Value → mr_h → Prop), mr_wp 104 44 [v0, v1, v2, v3, v4, v5] (.ref a :: st) h Q = mr_gf (h.1 a) 8 1 (fun v => mr_wp 104 47 [v0, v1, v2, v3, v4, v5] (v :: st) h Q)) ∧
    (∀ (v0 v1 v2 v3 v5 : Value) (x : Int32) (st : List Value) (h : mr_h) (Q : Option Value → mr_h → Prop), mr_wp 104 47 [v0, v1, v2, v3, .int x, v5] st h Q = mr_wp 104 49 [v0, v1, v2, v3, .int x, v5] (.int x :: st) h Q) ∧
    (∀ (v0 v1 v2 v3 v4 v5 : Value) (a : Nat) (x : Int32) (st : List Value) (h : mr_h) (Q : Option Value → mr_h → Prop), mr_wp 104 49 [v0, v1, v2, v3, v4, v5] (.int x :: .ref a :: st) h Q = mr_ai (h.1 a) x (fun v => mr_wp 104 50 [v0, v1, v2, v3, v4, v5] (.int v :: st) h Q)) ∧
    (∀ (v1 v2 v3 v4 v5 : Value) (x : Nat) (st : List Value) (h : mr_h) (Q : Option Value → mr_h → Prop), mr_wp 104 50 [.ref x, v1, v2, v3, v4, v5] st h Q = mr_wp 104 51 [.ref x, v1, v2, v3, v4, v5] (.ref x :: st) h Q) ∧
    (∀ (v0 v1 v2 v3 v4 v5 : Value) (a : Nat) (st : List Value) (h : mr_h) (Q : Option Value → mr_h → Prop), mr_wp 104 51 [v0, v1, v2, v3, v4, v5] (.ref a :: st) h Q = mr_gf (h.1 a) 8 2 (fun v => mr_wp 104 54 [v0, v1, v2, v3, v4, v5] (v :: st) h Q)) ∧
    (∀ (v0 v1 v2 v3 v5 : Value) (x : Int32) (st : List Value) (h : mr_h) (Q : Option Value → mr_h → Prop), mr_wp 104 54 [v0, v1, v2, v3, .int x, v5] st h Q = mr_wp 104 56 [v0, v1, v2, v3, .int x, v5] (.int x :: st) h Q) ∧
    (∀ (v0 v1 v2 v3 v4 v5 : Value) (a : Nat) (x : Int32) (st : List Value) (h : mr_h) (Q : Option Value → mr_h → Prop), mr_wp 104 56 [v0, v1, v2, v3, v4, v5] (.int x :: .ref a :: st) h Q = mr_ai (h.1 a) x (fun v => mr_wp 104 57 [v0, v1, v2, v3, v4, v5] (.int v :: st) h Q)) ∧
    (∀ (v0 v1 v2 v3 v4 v5 : Value) (a0 : Nat) (a1 : Int32) (a2 : Int32) (a3 : Int32) (h : mr_h) (Q : Option Value → mr_h → Prop), mr_wp 104 57 [v0, v1, v2, v3, v4, v5] [.int a3, .int a2, .int a1, .ref a0] h Q = mr_run 105 [.ref a0, .int a1, .int a2, .int a3] h (fun v h' => mr_wp 104 60 [v0, v1, v2, v3, v4, v5] (v.toList ++ []) h' Q)) ∧
    (∀ (v0 v1 v2 v3 v5 : Value) (w4 : Int32) (x : Int32) (st : List Value) (h : mr_h) (Q : Option Value → mr_h → Prop), mr_wp 104 60 [v0, v1, v2, v3, .int w4, v5] (.int x :: st) h Q = mr_wp 104 62 [v0, v1, v2, v3, .int w4, .int x] st h Q) ∧
    (∀ (v1 v2 v3 v4 v5 : Value) (x : Nat) (st : List Value) (h : mr_h) (Q : Option Value → mr_h → Prop), mr_wp 104 62 [.ref x, v1, v2, v3, v4, v5] st h Q = mr_wp 104 63 [.ref x, v1, v2, v3, v4, v5] (.ref x :: st) h Q) ∧
    (∀ (v0 v1 v2 v3 v4 v5 : Value) (a : Nat) (st : List Value) (h : mr_h) (Q : Option Value → mr_h → Prop), mr_wp 104 63 [v0, v1, v2, v3, v4, v5] (.ref a :: st) h Q = mr_gf (h.1 a) 8 4 (fun v => mr_wp 104 66 [v0, v1, v2, v3, v4, v5] (v :: st) h Q)) ∧
    (∀ (v0 v1 v2 v4 v5 : Value) (x : Int32) (st : List Value) (h : mr_h) (Q : Option Value → mr_h → Prop), mr_wp 104 66 [v0, v1, v2, .int x, v4, v5] st h Q = mr_wp 104 67 [v0, v1, v2, .int x, v4, v5] (.int x :: st) h Q) ∧
    (∀ (v0 v1 v2 v3 v4 v5 : Value) (x : Int32) (y : Nat) (st : List Value) (h : mr_h) (Q : Option Value → mr_h → Prop), mr_wp 104 67 [v0, v1, v2, v3, v4, v5] (.int x :: .ref y :: st) h Q = mr_wp 104 68 [v0, v1, v2, v3, v4, v5] (.int x :: .ref y :: .int x :: .ref y :: st) h Q) ∧
    (∀ (v0 v1 v2 v3 v4 v5 : Value) (a : Nat) (x : Int32) (st : List Value) (h : mr_h) (Q : Option Value → mr_h → Prop), mr_wp 104 68 [v0, v1, v2, v3, v4, v5] (.int x :: .ref a :: st) h Q = mr_ai (h.1 a) x (fun v => mr_wp 104 69 [v0, v1, v2, v3, v4, v5] (.int v :: st) h Q)) ∧
    (∀ (v1 v2 v3 v4 v5 : Value) (x : Nat) (st : List Value) (h : mr_h) (Q : Option Value → mr_h → Prop), mr_wp 104 69 [.ref x, v1, v2, v3, v4, v5] st h Q = mr_wp 104 70 [.ref x, v1, v2, v3, v4, v5] (.ref x :: st) h Q) ∧
    (∀ (v0 v1 v2 v3 v4 v5 : Value) (a : Nat) (st : List Value) (h : mr_h) (Q : Option Value → mr_h → Prop), mr_wp 104 70 [v0, v1, v2, v3, v4, v5] (.ref a :: st) h Q = mr_gf (h.1 a) 8 3 (fun v => mr_wp 104 73 [v0, v1, v2, v3, v4, v5] (v :: st) h Q)) :=
  ⟨fun v1 v2 v3 v4 v5 x st h Q => gx_one (i := .aload_n 0) (len := 1) (by decide +kernel) rfl,
   fun v0 v2 v3 v4 v5 x st h Q => gx_one (i := .aload_n 1) (len := 1) (by decide +kernel) rfl,
   fun v0 v1 v2 v3 v4 v5 a st h Q => gx_get (x := 31) (by decide +kernel) (by decide +kernel),
   fun v0 v1 v2 v3 v4 v5 a x st h Q => gx_put (x := 28) (by decide +kernel) (by decide +kernel) ⟨rfl, Or.inl rfl⟩,
   fun v0 v1 v2 v3 v4 v5 st h Q => gx_one (i := .iconst 0) (len := 1) (by decide +kernel) rfl,
   fun v0 v1 v3 v4 v5 w2 x st h Q => gx_one (i := .istore_n 3) (len := 1) (by decide +kernel) rfl,
   fun v1 v2 v3 v4 v5 x st h Q => gx_one (i := .aload_n 0) (len := 1) (by decide +kernel) rfl,
   fun v0 v1 v2 v3 v4 v5 a st h Q => gx_get (x := 28) (by decide +kernel) (by decide +kernel),
   fun v0 v1 v2 v3 v4 v5 x y st h Q => gx_br (i := .if_icmp .ge 88) (len := 3) (c := .ge) (by decide +kernel) rfl rfl,
   fun v1 v2 v3 v4 v5 x st h Q => gx_one (i := .aload_n 0) (len := 1) (by decide +kernel) rfl,
   fun v0 v1 v2 v3 v4 v5 a st h Q => gx_get (x := 25) (by decide +kernel) (by decide +kernel),
   fun v0 v1 v2 v4 v5 x st h Q => gx_one (i := .iload_n 3) (len := 1) (by decide +kernel) rfl,
   fun v0 v2 v3 v4 v5 x st h Q => gx_one (i := .aload_n 1) (len := 1) (by decide +kernel) rfl,
   fun v0 v1 v2 v4 v5 x st h Q => gx_one (i := .iload_n 3) (len := 1) (by decide +kernel) rfl,
   fun v0 v1 v2 v3 v4 v5 a0 o r0 r1 h Q => gx_virt (x := 34) (n := 1) (by decide +kernel) (by decide +kernel) rfl (Or.inl (Nat.le_of_ble_eq_true rfl)) (by show _ ≤ mr_mxl 90; rw [show mr_mxl 90 = 2 from by decide +kernel]; exact Nat.le_of_ble_eq_true rfl) (by decide +kernel),
   fun v0 v1 v2 v3 v4 v5 a x y st h Q => gx_iast (by decide +kernel),
   fun v0 v1 v2 v3 v4 v5 st h Q => gx_one (i := .iconst 0) (len := 1) (by decide +kernel) rfl,
   fun v0 v1 v2 v4 v5 w3 x st h Q => gx_one (i := .istore 4) (len := 2) (by decide +kernel) rfl,
   fun v1 v2 v3 v4 v5 x st h Q => gx_one (i := .aload_n 0) (len := 1) (by decide +kernel) rfl,
   fun v0 v1 v2 v3 v4 v5 a st h Q => gx_get (x := 9) (by decide +kernel) (by decide +kernel),
   fun v0 v1 v2 v3 v4 v5 x y st h Q => gx_br (i := .if_icmp .ge 59) (len := 3) (c := .ge) (by decide +kernel) rfl rfl,
   fun v0 v1 v3 v4 v5 x st h Q => gx_one (i := .aload_n 2) (len := 1) (by decide +kernel) rfl,
   fun v0 v1 v2 v4 v5 x st h Q => gx_one (i := .iload_n 3) (len := 1) (by decide +kernel) rfl,
   fun v1 v2 v3 v4 v5 x st h Q => gx_one (i := .aload_n 0) (len := 1) (by decide +kernel) rfl,
   fun v0 v1 v2 v3 v4 v5 a st h Q => gx_get (x := 15) (by decide +kernel) (by decide +kernel),
   fun v0 v1 v2 v3 v5 x st h Q => gx_one (i := .iload 4) (len := 2) (by decide +kernel) rfl,
   fun v0 v1 v2 v3 v4 v5 a x st h Q => gx_iald (by decide +kernel),
   fun v1 v2 v3 v4 v5 x st h Q => gx_one (i := .aload_n 0) (len := 1) (by decide +kernel) rfl,
   fun v0 v1 v2 v3 v4 v5 a st h Q => gx_get (x := 19) (by decide +kernel) (by decide +kernel),
   fun v0 v1 v2 v3 v5 x st h Q => gx_one (i := .iload 4) (len := 2) (by decide +kernel) rfl,
   fun v0 v1 v2 v3 v4 v5 a x st h Q => gx_iald (by decide +kernel),
   fun v0 v1 v2 v3 v4 v5 a0 a1 a2 a3 h Q => gx_stat (x := 38) (t := 105) (n := 4) (by decide +kernel) (by decide +kernel) (by decide) (by decide +kernel) rfl (Or.inl (Nat.le_of_ble_eq_true rfl)) (by show _ ≤ mr_mxl 105; rw [show mr_mxl 105 = 4 from by decide +kernel]; exact Nat.le_of_ble_eq_true rfl),
   fun v0 v1 v2 v3 v5 w4 x st h Q => gx_one (i := .istore 5) (len := 2) (by decide +kernel) rfl,
   fun v1 v2 v3 v4 v5 x st h Q => gx_one (i := .aload_n 0) (len := 1) (by decide +kernel) rfl,
   fun v0 v1 v2 v3 v4 v5 a st h Q => gx_get (x := 25) (by decide +kernel) (by decide +kernel),
   fun v0 v1 v2 v4 v5 x st h Q => gx_one (i := .iload_n 3) (len := 1) (by decide +kernel) rfl,
   fun v0 v1 v2 v3 v4 v5 x y st h Q => gx_one (i := .dup2) (len := 1) (by decide +kernel) rfl,
   fun v0 v1 v2 v3 v4 v5 a x st h Q => gx_iald (by decide +kernel),
   fun v1 v2 v3 v4 v5 x st h Q => gx_one (i := .aload_n 0) (len := 1) (by decide +kernel) rfl,
   fun v0 v1 v2 v3 v4 v5 a st h Q => gx_get (x := 22) (by decide +kernel) (by decide +kernel)⟩
theorem S_si_sift_1 : (∀ (v0 v1 v2 v3 v5 : Value) (x : Int32) (st : List Value) (h : mr_h) (Q : Option Value → mr_h → Prop), mr_wp 104 73 [v0, v1, v2, v3, .int x, v5] st h Q = mr_wp 104 75 [v0, v1, v2, v3, .int x, v5] (.int x :: st) h Q) ∧
    (∀ (v0 v1 v2 v3 v4 v5 : Value) (a : Nat) (x : Int32) (st : List Value) (h : mr_h) (Q : Option Value → mr_h → Prop), mr_wp 104 75 [v0, v1, v2, v3, v4, v5] (.int x :: .ref a :: st) h Q = mr_ai (h.1 a) x (fun v => mr_wp 104 76 [v0, v1, v2, v3, v4, v5] (.int v :: st) h Q)) ∧
    (∀ (v0 v1 v2 v3 v4 v5 : Value) (st : List Value) (h : mr_h) (Q : Option Value → mr_h → Prop), mr_wp 104 76 [v0, v1, v2, v3, v4, v5] st h Q = mr_wp 104 77 [v0, v1, v2, v3, v4, v5] (.int (1) :: st) h Q) ∧
    (∀ (v0 v1 v2 v3 v4 v5 : Value) (x : Int32) (y : Int32) (st : List Value) (h : mr_h) (Q : Option Value → mr_h → Prop), mr_wp 104 77 [v0, v1, v2, v3, v4, v5] (.int y :: .int x :: st) h Q = if ¬ x = y then mr_wp 104 85 [v0, v1, v2, v3, v4, v5] st h Q else mr_wp 104 80 [v0, v1, v2, v3, v4, v5] st h Q) ∧
    (∀ (v0 v1 v2 v3 v4 : Value) (x : Int32) (st : List Value) (h : mr_h) (Q : Option Value → mr_h → Prop), mr_wp 104 80 [v0, v1, v2, v3, v4, .int x] st h Q = mr_wp 104 82 [v0, v1, v2, v3, v4, .int x] (.int x :: st) h Q) ∧
    (∀ (v0 v1 v2 v3 v4 v5 : Value) (st : List Value) (h : mr_h) (Q : Option Value → mr_h → Prop), mr_wp 104 82 [v0, v1, v2, v3, v4, v5] st h Q = mr_wp 104 89 [v0, v1, v2, v3, v4, v5] st h Q) ∧
    (∀ (v0 v1 v2 v3 v4 : Value) (x : Int32) (st : List Value) (h : mr_h) (Q : Option Value → mr_h → Prop), mr_wp 104 85 [v0, v1, v2, v3, v4, .int x] st h Q = mr_wp 104 87 [v0, v1, v2, v3, v4, .int x] (.int x :: st) h Q) ∧
    (∀ (v0 v1 v2 v3 v4 v5 : Value) (st : List Value) (h : mr_h) (Q : Option Value → mr_h → Prop), mr_wp 104 87 [v0, v1, v2, v3, v4, v5] st h Q = mr_wp 104 88 [v0, v1, v2, v3, v4, v5] (.int (-1) :: st) h Q) ∧
    (∀ (v0 v1 v2 v3 v4 v5 : Value) (x : Int32) (y : Int32) (st : List Value) (h : mr_h) (Q : Option Value → mr_h → Prop), mr_wp 104 88 [v0, v1, v2, v3, v4, v5] (.int y :: .int x :: st) h Q = mr_wp 104 89 [v0, v1, v2, v3, v4, v5] (.int (x ^^^ y) :: st) h Q) ∧
    (∀ (v0 v1 v2 v3 v4 v5 : Value) (x : Int32) (y : Int32) (st : List Value) (h : mr_h) (Q : Option Value → mr_h → Prop), mr_wp 104 89 [v0, v1, v2, v3, v4, v5] (.int y :: .int x :: st) h Q = mr_wp 104 90 [v0, v1, v2, v3, v4, v5] (.int (x &&& y) :: st) h Q) ∧
    (∀ (v0 v1 v2 v3 v4 v5 : Value) (a : Nat) (x : Int32) (y : Int32) (st : List Value) (h : mr_h) (Q : Option Value → mr_h → Prop), mr_wp 104 90 [v0, v1, v2, v3, v4, v5] (.int y :: .int x :: .ref a :: st) h Q = mr_si (h.1 a) x y (fun c => mr_wp 104 91 [v0, v1, v2, v3, v4, v5] st (mr_up h a c) Q)) ∧
    (∀ (v0 v1 v2 v5 : Value) (x : Int32) (w3 : Int32) (st : List Value) (h : mr_h) (Q : Option Value → mr_h → Prop), mr_wp 104 91 [v0, v1, v2, .int w3, .int x, v5] st h Q = mr_wp 104 94 [v0, v1, v2, .int w3, .int (x + (1)), v5] st h Q) ∧
    (∀ (v0 v1 v2 v3 v4 v5 : Value) (st : List Value) (h : mr_h) (Q : Option Value → mr_h → Prop), mr_wp 104 94 [v0, v1, v2, v3, v4, v5] st h Q = mr_wp 104 32 [v0, v1, v2, v3, v4, v5] st h Q) ∧
    (∀ (v0 v1 v4 v5 : Value) (x : Int32) (w2 : Nat) (st : List Value) (h : mr_h) (Q : Option Value → mr_h → Prop), mr_wp 104 97 [v0, v1, .ref w2, .int x, v4, v5] st h Q = mr_wp 104 100 [v0, v1, .ref w2, .int (x + (1)), v4, v5] st h Q) ∧
    (∀ (v0 v1 v2 v3 v4 v5 : Value) (st : List Value) (h : mr_h) (Q : Option Value → mr_h → Prop), mr_wp 104 100 [v0, v1, v2, v3, v4, v5] st h Q = mr_wp 104 10 [v0, v1, v2, v3, v4, v5] st h Q) ∧
    (∀ (v0 v1 v2 v3 v4 v5 : Value) (h : mr_h) (Q : Option Value → mr_h → Prop), mr_wp 104 103 [v0, v1, v2, v3, v4, v5] [] h Q = Q none h) :=
  ⟨fun v0 v1 v2 v3 v5 x st h Q => gx_one (i := .iload 4) (len := 2) (by decide +kernel) rfl,
   fun v0 v1 v2 v3 v4 v5 a x st h Q => gx_iald (by decide +kernel),
   fun v0 v1 v2 v3 v4 v5 st h Q => gx_one (i := .iconst 1) (len := 1) (by decide +kernel) rfl,
   fun v0 v1 v2 v3 v4 v5 x y st h Q => gx_br (i := .if_icmp .ne 8) (len := 3) (c := .ne) (by decide +kernel) rfl rfl,
   fun v0 v1 v2 v3 v4 x st h Q => gx_one (i := .iload 5) (len := 2) (by decide +kernel) rfl,
   fun v0 v1 v2 v3 v4 v5 st h Q => gx_one (i := .goto 7) (len := 3) (by decide +kernel) rfl,
   fun v0 v1 v2 v3 v4 x st h Q => gx_one (i := .iload 5) (len := 2) (by decide +kernel) rfl,
   fun v0 v1 v2 v3 v4 v5 st h Q => gx_one (i := .iconst (-1)) (len := 1) (by decide +kernel) rfl,
   fun v0 v1 v2 v3 v4 v5 x y st h Q => gx_one (i := .ixor) (len := 1) (by decide +kernel) rfl,
   fun v0 v1 v2 v3 v4 v5 x y st h Q => gx_one (i := .iand) (len := 1) (by decide +kernel) rfl,
   fun v0 v1 v2 v3 v4 v5 a x y st h Q => gx_iast (by decide +kernel),
   fun v0 v1 v2 v5 x w3 st h Q => gx_one (i := .iinc 4 1) (len := 3) (by decide +kernel) rfl,
   fun v0 v1 v2 v3 v4 v5 st h Q => gx_one (i := .goto (-62)) (len := 3) (by decide +kernel) rfl,
   fun v0 v1 v4 v5 x w2 st h Q => gx_one (i := .iinc 3 1) (len := 3) (by decide +kernel) rfl,
   fun v0 v1 v2 v3 v4 v5 st h Q => gx_one (i := .goto (-90)) (len := 3) (by decide +kernel) rfl,
   fun v0 v1 v2 v3 v4 v5 h Q => gx_ret (i := .return_) (len := 1) (by decide +kernel) rfl rfl (by simp only [mr_rt, if_pos]; rw [if_pos (by decide +kernel)])⟩

theorem S_si_making : (∀ (v1 v2 v3 : Value) (x : Nat) (st : List Value) (h : mr_h) (Q : Option Value → mr_h → Prop), mr_wp 105 0 [.ref x, v1, v2, v3] st h Q = mr_wp 105 1 [.ref x, v1, v2, v3] (.ref x :: st) h Q) ∧
    (∀ (v0 v1 v3 : Value) (x : Int32) (st : List Value) (h : mr_h) (Q : Option Value → mr_h → Prop), mr_wp 105 1 [v0, v1, .int x, v3] st h Q = mr_wp 105 2 [v0, v1, .int x, v3] (.int x :: st) h Q) ∧
    (∀ (v0 v1 v2 : Value) (x : Int32) (st : List Value) (h : mr_h) (Q : Option Value → mr_h → Prop), mr_wp 105 2 [v0, v1, v2, .int x] st h Q = mr_wp 105 3 [v0, v1, v2, .int x] (.int x :: st) h Q) ∧
    (∀ (v0 v1 v2 v3 : Value) (a0 : Int32) (a1 : Int32) (o : Nat) (h : mr_h) (Q : Option Value → mr_h → Prop), mr_wp 105 3 [v0, v1, v2, v3] [.int a1, .int a0, .ref o] h Q = mr_rc (h.1 o) 6 (mr_run 25 [.ref o, .int a0, .int a1] h (fun v h' => mr_wp 105 6 [v0, v1, v2, v3] (v.toList ++ []) h' Q))) ∧
    (∀ (v0 v1 v2 v3 : Value) (x : Int32) (st : List Value) (h : mr_h) (Q : Option Value → mr_h → Prop), mr_wp 105 6 [v0, v1, v2, v3] (.int x :: st) h Q = if x = 0 then mr_wp 105 11 [v0, v1, v2, v3] st h Q else mr_wp 105 9 [v0, v1, v2, v3] st h Q) ∧
    (∀ (v0 v1 v2 v3 : Value) (st : List Value) (h : mr_h) (Q : Option Value → mr_h → Prop), mr_wp 105 9 [v0, v1, v2, v3] st h Q = mr_wp 105 10 [v0, v1, v2, v3] (.int (-1) :: st) h Q) ∧
    (∀ (v0 v1 v2 v3 : Value) (x : Int32) (h : mr_h) (Q : Option Value → mr_h → Prop), mr_wp 105 10 [v0, v1, v2, v3] [.int x] h Q = Q (some (.int x)) h) ∧
    (∀ (v1 v2 v3 : Value) (x : Nat) (st : List Value) (h : mr_h) (Q : Option Value → mr_h → Prop), mr_wp 105 11 [.ref x, v1, v2, v3] st h Q = mr_wp 105 12 [.ref x, v1, v2, v3] (.ref x :: st) h Q) ∧
    (∀ (v0 v1 v3 : Value) (x : Int32) (st : List Value) (h : mr_h) (Q : Option Value → mr_h → Prop), mr_wp 105 12 [v0, v1, .int x, v3] st h Q = mr_wp 105 13 [v0, v1, .int x, v3] (.int x :: st) h Q) ∧
    (∀ (v0 v2 v3 : Value) (x : Int32) (st : List Value) (h : mr_h) (Q : Option Value → mr_h → Prop), mr_wp 105 13 [v0, .int x, v2, v3] st h Q = mr_wp 105 14 [v0, .int x, v2, v3] (.int x :: st) h Q) ∧
    (∀ (v0 v1 v2 v3 : Value) (a0 : Int32) (a1 : Int32) (o : Nat) (h : mr_h) (Q : Option Value → mr_h → Prop), mr_wp 105 14 [v0, v1, v2, v3] [.int a1, .int a0, .ref o] h Q = mr_rc (h.1 o) 6 (mr_run 25 [.ref o, .int a0, .int a1] h (fun v h' => mr_wp 105 17 [v0, v1, v2, v3] (v.toList ++ []) h' Q))) ∧
    (∀ (v0 v1 v2 v3 : Value) (x : Int32) (st : List Value) (h : mr_h) (Q : Option Value → mr_h → Prop), mr_wp 105 17 [v0, v1, v2, v3] (.int x :: st) h Q = if x = 0 then mr_wp 105 29 [v0, v1, v2, v3] st h Q else mr_wp 105 20 [v0, v1, v2, v3] st h Q) ∧
    (∀ (v1 v2 v3 : Value) (x : Nat) (st : List Value) (h : mr_h) (Q : Option Value → mr_h → Prop), mr_wp 105 20 [.ref x, v1, v2, v3] st h Q = mr_wp 105 21 [.ref x, v1, v2, v3] (.ref x :: st) h Q) ∧
    (∀ (v0 v1 v2 v3 : Value) (a : Nat) (st : List Value) (h : mr_h) (Q : Option Value → mr_h → Prop), mr_wp 105 21 [v0, v1, v2, v3] (.ref a :: st) h Q = mr_gf (h.1 a) 6 1 (fun v => mr_wp 105 24 [v0, v1, v2, v3] (v :: st) h Q)) ∧
    (∀ (v0 v1 v2 : Value) (x : Int32) (st : List Value) (h : mr_h) (Q : Option Value → mr_h → Prop), mr_wp 105 24 [v0, v1, v2, .int x] st h Q = mr_wp 105 25 [v0, v1, v2, .int x] (.int x :: st) h Q) ∧
    (∀ (v0 v1 v2 v3 : Value) (a : Nat) (x : Int32) (st : List Value) (h : mr_h) (Q : Option Value → mr_h → Prop), mr_wp 105 25 [v0, v1, v2, v3] (.int x :: .ref a :: st) h Q = mr_ai (h.1 a) x (fun v => mr_wp 105 26 [v0, v1, v2, v3] (.int v :: st) h Q)) ∧
    (∀ (v0 v1 v2 v3 : Value) (st : List Value) (h : mr_h) (Q : Option Value → mr_h → Prop), mr_wp 105 26 [v0, v1, v2, v3] st h Q = mr_wp 105 30 [v0, v1, v2, v3] st h Q) ∧
    (∀ (v0 v1 v2 v3 : Value) (st : List Value) (h : mr_h) (Q : Option Value → mr_h → Prop), mr_wp 105 29 [v0, v1, v2, v3] st h Q = mr_wp 105 30 [v0, v1, v2, v3] (.int (0) :: st) h Q) ∧
    (∀ (v0 v1 v2 v3 : Value) (x : Int32) (h : mr_h) (Q : Option Value → mr_h → Prop), mr_wp 105 30 [v0, v1, v2, v3] [.int x] h Q = Q (some (.int x)) h) :=
  ⟨fun v1 v2 v3 x st h Q => gx_one (i := .aload_n 0) (len := 1) (by decide +kernel) rfl,
   fun v0 v1 v3 x st h Q => gx_one (i := .iload_n 2) (len := 1) (by decide +kernel) rfl,
   fun v0 v1 v2 x st h Q => gx_one (i := .iload_n 3) (len := 1) (by decide +kernel) rfl,
   fun v0 v1 v2 v3 a0 a1 o h Q => gx_virt (x := 67) (n := 2) (by decide +kernel) (by decide +kernel) rfl (Or.inl (Nat.le_of_ble_eq_true rfl)) (by show _ ≤ mr_mxl 25; rw [show mr_mxl 25 = 3 from by decide +kernel]; exact Nat.le_of_ble_eq_true rfl) (by decide +kernel),
   fun v0 v1 v2 v3 x st h Q => gx_br (i := .ifCond .eq 5) (len := 3) (c := .eq) (by decide +kernel) rfl rfl,
   fun v0 v1 v2 v3 st h Q => gx_one (i := .iconst (-1)) (len := 1) (by decide +kernel) rfl,
   fun v0 v1 v2 v3 x h Q => gx_ret (i := .ireturn) (len := 1) (by decide +kernel) rfl rfl (by simp only [mr_rt, if_pos]; rw [if_pos (Or.inl (by decide +kernel))]),
   fun v1 v2 v3 x st h Q => gx_one (i := .aload_n 0) (len := 1) (by decide +kernel) rfl,
   fun v0 v1 v3 x st h Q => gx_one (i := .iload_n 2) (len := 1) (by decide +kernel) rfl,
   fun v0 v2 v3 x st h Q => gx_one (i := .iload_n 1) (len := 1) (by decide +kernel) rfl,
   fun v0 v1 v2 v3 a0 a1 o h Q => gx_virt (x := 67) (n := 2) (by decide +kernel) (by decide +kernel) rfl (Or.inl (Nat.le_of_ble_eq_true rfl)) (by show _ ≤ mr_mxl 25; rw [show mr_mxl 25 = 3 from by decide +kernel]; exact Nat.le_of_ble_eq_true rfl) (by decide +kernel),
   fun v0 v1 v2 v3 x st h Q => gx_br (i := .ifCond .eq 12) (len := 3) (c := .eq) (by decide +kernel) rfl rfl,
   fun v1 v2 v3 x st h Q => gx_one (i := .aload_n 0) (len := 1) (by decide +kernel) rfl,
   fun v0 v1 v2 v3 a st h Q => gx_get (x := 73) (by decide +kernel) (by decide +kernel),
   fun v0 v1 v2 x st h Q => gx_one (i := .iload_n 3) (len := 1) (by decide +kernel) rfl,
   fun v0 v1 v2 v3 a x st h Q => gx_iald (by decide +kernel),
   fun v0 v1 v2 v3 st h Q => gx_one (i := .goto 4) (len := 3) (by decide +kernel) rfl,
   fun v0 v1 v2 v3 st h Q => gx_one (i := .iconst 0) (len := 1) (by decide +kernel) rfl,
   fun v0 v1 v2 v3 x h Q => gx_ret (i := .ireturn) (len := 1) (by decide +kernel) rfl rfl (by simp only [mr_rt, if_pos]; rw [if_pos (Or.inl (by decide +kernel))])⟩
theorem s_si_fitting_4 (v0 v1 : Value) (x : Int32) (st : List Value) (h : mr_h) (Q : Option Value → mr_h → Prop) : mr_wp 106 4 [v0, v1, .int x] st h Q = mr_wp 106 5 [v0, v1, .int x] (.int x :: st) h Q := gx_one (i := .iload_n 2) (len := 1) (by decide +kernel) rfl
theorem S_si_fitting : (∀ (v0 v1 v2 : Value) (st : List Value) (h : mr_h) (Q : Option Value → mr_h → Prop), mr_wp 106 0 [v0, v1, v2] st h Q = mr_wp 106 1 [v0, v1, v2] (.int (0) :: st) h Q) ∧
    (∀ (v1 v2 : Value) (w0 : Nat) (x : Int32) (st : List Value) (h : mr_h) (Q : Option Value → mr_h → Prop), mr_wp 106 1 [.ref w0, v1, v2] (.int x :: st) h Q = mr_wp 106 2 [.ref w0, .int x, v2] st h Q) ∧
    (∀ (v0 v1 v2 : Value) (st : List Value) (h : mr_h) (Q : Option Value → mr_h → Prop), mr_wp 106 2 [v0, v1, v2] st h Q = mr_wp 106 3 [v0, v1, v2] (.int (0) :: st) h Q) ∧
    (∀ (v0 v2 : Value) (w1 : Int32) (x : Int32) (st : List Value) (h : mr_h) (Q : Option Value → mr_h → Prop), mr_wp 106 3 [v0, .int w1, v2] (.int x :: st) h Q = mr_wp 106 4 [v0, .int w1, .int x] st h Q) ∧
    (∀ (v1 v2 : Value) (x : Nat) (st : List Value) (h : mr_h) (Q : Option Value → mr_h → Prop), mr_wp 106 5 [.ref x, v1, v2] st h Q = mr_wp 106 6 [.ref x, v1, v2] (.ref x :: st) h Q) ∧
    (∀ (v0 v1 v2 : Value) (a : Nat) (st : List Value) (h : mr_h) (Q : Option Value → mr_h → Prop), mr_wp 106 6 [v0, v1, v2] (.ref a :: st) h Q = mr_gf (h.1 a) 8 5 (fun v => mr_wp 106 9 [v0, v1, v2] (v :: st) h Q)) ∧
    (∀ (v0 v1 v2 : Value) (x : Int32) (y : Int32) (st : List Value) (h : mr_h) (Q : Option Value → mr_h → Prop), mr_wp 106 9 [v0, v1, v2] (.int y :: .int x :: st) h Q = if y ≤ x then mr_wp 106 30 [v0, v1, v2] st h Q else mr_wp 106 12 [v0, v1, v2] st h Q) ∧
    (∀ (v0 v2 : Value) (x : Int32) (st : List Value) (h : mr_h) (Q : Option Value → mr_h → Prop), mr_wp 106 12 [v0, .int x, v2] st h Q = mr_wp 106 13 [v0, .int x, v2] (.int x :: st) h Q) ∧
    (∀ (v1 v2 : Value) (x : Nat) (st : List Value) (h : mr_h) (Q : Option Value → mr_h → Prop), mr_wp 106 13 [.ref x, v1, v2] st h Q = mr_wp 106 14 [.ref x, v1, v2] (.ref x :: st) h Q) ∧
    (∀ (v0 v1 v2 : Value) (a : Nat) (st : List Value) (h : mr_h) (Q : Option Value → mr_h → Prop), mr_wp 106 14 [v0, v1, v2] (.ref a :: st) h Q = mr_gf (h.1 a) 8 4 (fun v => mr_wp 106 17 [v0, v1, v2] (v :: st) h Q)) ∧
    (∀ (v0 v1 : Value) (x : Int32) (st : List Value) (h : mr_h) (Q : Option Value → mr_h → Prop), mr_wp 106 17 [v0, v1, .int x] st h Q = mr_wp 106 18 [v0, v1, .int x] (.int x :: st) h Q) ∧
    (∀ (v0 v1 v2 : Value) (a : Nat) (x : Int32) (st : List Value) (h : mr_h) (Q : Option Value → mr_h → Prop), mr_wp 106 18 [v0, v1, v2] (.int x :: .ref a :: st) h Q = mr_ai (h.1 a) x (fun v => mr_wp 106 19 [v0, v1, v2] (.int v :: st) h Q)) ∧
    (∀ (v0 v1 v2 : Value) (a0 : Int32) (r0 : Value) (h : mr_h) (Q : Option Value → mr_h → Prop), mr_wp 106 19 [v0, v1, v2] [.int a0, r0] h Q = mr_run 50 [.int a0] h (fun v h' => mr_wp 106 22 [v0, v1, v2] (v.toList ++ [r0]) h' Q)) ∧
    (∀ (v0 v1 v2 : Value) (x : Int32) (y : Int32) (st : List Value) (h : mr_h) (Q : Option Value → mr_h → Prop), mr_wp 106 22 [v0, v1, v2] (.int y :: .int x :: st) h Q = mr_wp 106 23 [v0, v1, v2] (.int (x + y) :: st) h Q) ∧
    (∀ (v1 v2 : Value) (w0 : Nat) (x : Int32) (st : List Value) (h : mr_h) (Q : Option Value → mr_h → Prop), mr_wp 106 23 [.ref w0, v1, v2] (.int x :: st) h Q = mr_wp 106 24 [.ref w0, .int x, v2] st h Q) ∧
    (∀ (v0 : Value) (x : Int32) (w1 : Int32) (st : List Value) (h : mr_h) (Q : Option Value → mr_h → Prop), mr_wp 106 24 [v0, .int w1, .int x] st h Q = mr_wp 106 27 [v0, .int w1, .int (x + (1))] st h Q) ∧
    (∀ (v0 v1 v2 : Value) (st : List Value) (h : mr_h) (Q : Option Value → mr_h → Prop), mr_wp 106 27 [v0, v1, v2] st h Q = mr_wp 106 4 [v0, v1, v2] st h Q) ∧
    (∀ (v0 v2 : Value) (x : Int32) (st : List Value) (h : mr_h) (Q : Option Value → mr_h → Prop), mr_wp 106 30 [v0, .int x, v2] st h Q = mr_wp 106 31 [v0, .int x, v2] (.int x :: st) h Q) ∧
    (∀ (v0 v1 v2 : Value) (x : Int32) (h : mr_h) (Q : Option Value → mr_h → Prop), mr_wp 106 31 [v0, v1, v2] [.int x] h Q = Q (some (.int x)) h) :=
  ⟨fun v0 v1 v2 st h Q => gx_one (i := .iconst 0) (len := 1) (by decide +kernel) rfl,
   fun v1 v2 w0 x st h Q => gx_one (i := .istore_n 1) (len := 1) (by decide +kernel) rfl,
   fun v0 v1 v2 st h Q => gx_one (i := .iconst 0) (len := 1) (by decide +kernel) rfl,
   fun v0 v2 w1 x st h Q => gx_one (i := .istore_n 2) (len := 1) (by decide +kernel) rfl,
   fun v1 v2 x st h Q => gx_one (i := .aload_n 0) (len := 1) (by decide +kernel) rfl,
   fun v0 v1 v2 a st h Q => gx_get (x := 28) (by decide +kernel) (by decide +kernel),
   fun v0 v1 v2 x y st h Q => gx_br (i := .if_icmp .ge 21) (len := 3) (c := .ge) (by decide +kernel) rfl rfl,
   fun v0 v2 x st h Q => gx_one (i := .iload_n 1) (len := 1) (by decide +kernel) rfl,
   fun v1 v2 x st h Q => gx_one (i := .aload_n 0) (len := 1) (by decide +kernel) rfl,
   fun v0 v1 v2 a st h Q => gx_get (x := 25) (by decide +kernel) (by decide +kernel),
   fun v0 v1 x st h Q => gx_one (i := .iload_n 2) (len := 1) (by decide +kernel) rfl,
   fun v0 v1 v2 a x st h Q => gx_iald (by decide +kernel),
   fun v0 v1 v2 a0 r0 h Q => gx_stat (x := 42) (t := 50) (n := 1) (by decide +kernel) (by decide +kernel) (by decide) (by decide +kernel) rfl (Or.inl (Nat.le_of_ble_eq_true rfl)) (by show _ ≤ mr_mxl 50; rw [show mr_mxl 50 = 1 from by decide +kernel]; exact Nat.le_of_ble_eq_true rfl),
   fun v0 v1 v2 x y st h Q => gx_one (i := .iadd) (len := 1) (by decide +kernel) rfl,
   fun v1 v2 w0 x st h Q => gx_one (i := .istore_n 1) (len := 1) (by decide +kernel) rfl,
   fun v0 x w1 st h Q => gx_one (i := .iinc 2 1) (len := 3) (by decide +kernel) rfl,
   fun v0 v1 v2 st h Q => gx_one (i := .goto (-23)) (len := 3) (by decide +kernel) rfl,
   fun v0 v2 x st h Q => gx_one (i := .iload_n 1) (len := 1) (by decide +kernel) rfl,
   fun v0 v1 v2 x h Q => gx_ret (i := .ireturn) (len := 1) (by decide +kernel) rfl rfl (by simp only [mr_rt, if_pos]; rw [if_pos (Or.inl (by decide +kernel))])⟩
theorem s_si_firstFitting_2 (v0 : Value) (x : Int32) (st : List Value) (h : mr_h) (Q : Option Value → mr_h → Prop) : mr_wp 107 2 [v0, .int x] st h Q = mr_wp 107 3 [v0, .int x] (.int x :: st) h Q := gx_one (i := .iload_n 1) (len := 1) (by decide +kernel) rfl
theorem S_si_firstFitting : (∀ (v0 v1 : Value) (st : List Value) (h : mr_h) (Q : Option Value → mr_h → Prop), mr_wp 107 0 [v0, v1] st h Q = mr_wp 107 1 [v0, v1] (.int (0) :: st) h Q) ∧
    (∀ (v1 : Value) (w0 : Nat) (x : Int32) (st : List Value) (h : mr_h) (Q : Option Value → mr_h → Prop), mr_wp 107 1 [.ref w0, v1] (.int x :: st) h Q = mr_wp 107 2 [.ref w0, .int x] st h Q) ∧
    (∀ (v1 : Value) (x : Nat) (st : List Value) (h : mr_h) (Q : Option Value → mr_h → Prop), mr_wp 107 3 [.ref x, v1] st h Q = mr_wp 107 4 [.ref x, v1] (.ref x :: st) h Q) ∧
    (∀ (v0 v1 : Value) (a : Nat) (st : List Value) (h : mr_h) (Q : Option Value → mr_h → Prop), mr_wp 107 4 [v0, v1] (.ref a :: st) h Q = mr_gf (h.1 a) 8 5 (fun v => mr_wp 107 7 [v0, v1] (v :: st) h Q)) ∧
    (∀ (v0 v1 : Value) (x : Int32) (y : Int32) (st : List Value) (h : mr_h) (Q : Option Value → mr_h → Prop), mr_wp 107 7 [v0, v1] (.int y :: .int x :: st) h Q = if y ≤ x then mr_wp 107 39 [v0, v1] st h Q else mr_wp 107 10 [v0, v1] st h Q) ∧
    (∀ (v1 : Value) (x : Nat) (st : List Value) (h : mr_h) (Q : Option Value → mr_h → Prop), mr_wp 107 10 [.ref x, v1] st h Q = mr_wp 107 11 [.ref x, v1] (.ref x :: st) h Q) ∧
    (∀ (v0 v1 : Value) (a : Nat) (st : List Value) (h : mr_h) (Q : Option Value → mr_h → Prop), mr_wp 107 11 [v0, v1] (.ref a :: st) h Q = mr_gf (h.1 a) 8 4 (fun v => mr_wp 107 14 [v0, v1] (v :: st) h Q)) ∧
    (∀ (v0 : Value) (x : Int32) (st : List Value) (h : mr_h) (Q : Option Value → mr_h → Prop), mr_wp 107 14 [v0, .int x] st h Q = mr_wp 107 15 [v0, .int x] (.int x :: st) h Q) ∧
    (∀ (v0 v1 : Value) (a : Nat) (x : Int32) (st : List Value) (h : mr_h) (Q : Option Value → mr_h → Prop), mr_wp 107 15 [v0, v1] (.int x :: .ref a :: st) h Q = mr_ai (h.1 a) x (fun v => mr_wp 107 16 [v0, v1] (.int v :: st) h Q)) ∧
    (∀ (v0 v1 : Value) (x : Int32) (st : List Value) (h : mr_h) (Q : Option Value → mr_h → Prop), mr_wp 107 16 [v0, v1] (.int x :: st) h Q = if x = 0 then mr_wp 107 33 [v0, v1] st h Q else mr_wp 107 19 [v0, v1] st h Q) ∧
    (∀ (v0 : Value) (x : Int32) (st : List Value) (h : mr_h) (Q : Option Value → mr_h → Prop), mr_wp 107 19 [v0, .int x] st h Q = mr_wp 107 20 [v0, .int x] (.int x :: st) h Q) ∧
    (∀ (v1 : Value) (x : Nat) (st : List Value) (h : mr_h) (Q : Option Value → mr_h → Prop), mr_wp 107 20 [.ref x, v1] st h Q = mr_wp 107 21 [.ref x, v1] (.ref x :: st) h Q) ∧
    (∀ (v0 v1 : Value) (a : Nat) (st : List Value) (h : mr_h) (Q : Option Value → mr_h → Prop), mr_wp 107 21 [v0, v1] (.ref a :: st) h Q = mr_gf (h.1 a) 8 4 (fun v => mr_wp 107 24 [v0, v1] (v :: st) h Q)) ∧
    (∀ (v0 : Value) (x : Int32) (st : List Value) (h : mr_h) (Q : Option Value → mr_h → Prop), mr_wp 107 24 [v0, .int x] st h Q = mr_wp 107 25 [v0, .int x] (.int x :: st) h Q) ∧
    (∀ (v0 v1 : Value) (a : Nat) (x : Int32) (st : List Value) (h : mr_h) (Q : Option Value → mr_h → Prop), mr_wp 107 25 [v0, v1] (.int x :: .ref a :: st) h Q = mr_ai (h.1 a) x (fun v => mr_wp 107 26 [v0, v1] (.int v :: st) h Q)) ∧
    (∀ (v0 v1 : Value) (a0 : Int32) (r0 : Value) (h : mr_h) (Q : Option Value → mr_h → Prop), mr_wp 107 26 [v0, v1] [.int a0, r0] h Q = mr_run 21 [.int a0] h (fun v h' => mr_wp 107 29 [v0, v1] (v.toList ++ [r0]) h' Q)) ∧
    (∀ (v0 v1 : Value) (a0 : Int32) (a1 : Int32) (h : mr_h) (Q : Option Value → mr_h → Prop), mr_wp 107 29 [v0, v1] [.int a1, .int a0] h Q = mr_run 92 [.int a0, .int a1] h (fun v h' => mr_wp 107 32 [v0, v1] (v.toList ++ []) h' Q)) ∧
    (∀ (v0 v1 : Value) (x : Int32) (h : mr_h) (Q : Option Value → mr_h → Prop), mr_wp 107 32 [v0, v1] [.int x] h Q = Q (some (.int x)) h) ∧
    (∀ (x : Int32) (w0 : Nat) (st : List Value) (h : mr_h) (Q : Option Value → mr_h → Prop), mr_wp 107 33 [.ref w0, .int x] st h Q = mr_wp 107 36 [.ref w0, .int (x + (1))] st h Q) ∧
    (∀ (v0 v1 : Value) (st : List Value) (h : mr_h) (Q : Option Value → mr_h → Prop), mr_wp 107 36 [v0, v1] st h Q = mr_wp 107 2 [v0, v1] st h Q) ∧
    (∀ (v0 v1 : Value) (st : List Value) (h : mr_h) (Q : Option Value → mr_h → Prop), mr_wp 107 39 [v0, v1] st h Q = mr_wp 107 41 [v0, v1] (.int (-9) :: st) h Q) ∧
    (∀ (v0 v1 : Value) (x : Int32) (h : mr_h) (Q : Option Value → mr_h → Prop), mr_wp 107 41 [v0, v1] [.int x] h Q = Q (some (.int x)) h) :=
  ⟨fun v0 v1 st h Q => gx_one (i := .iconst 0) (len := 1) (by decide +kernel) rfl,
   fun v1 w0 x st h Q => gx_one (i := .istore_n 1) (len := 1) (by decide +kernel) rfl,
   fun v1 x st h Q => gx_one (i := .aload_n 0) (len := 1) (by decide +kernel) rfl,
   fun v0 v1 a st h Q => gx_get (x := 28) (by decide +kernel) (by decide +kernel),
   fun v0 v1 x y st h Q => gx_br (i := .if_icmp .ge 32) (len := 3) (c := .ge) (by decide +kernel) rfl rfl,
   fun v1 x st h Q => gx_one (i := .aload_n 0) (len := 1) (by decide +kernel) rfl,
   fun v0 v1 a st h Q => gx_get (x := 25) (by decide +kernel) (by decide +kernel),
   fun v0 x st h Q => gx_one (i := .iload_n 1) (len := 1) (by decide +kernel) rfl,
   fun v0 v1 a x st h Q => gx_iald (by decide +kernel),
   fun v0 v1 x st h Q => gx_br (i := .ifCond .eq 17) (len := 3) (c := .eq) (by decide +kernel) rfl rfl,
   fun v0 x st h Q => gx_one (i := .iload_n 1) (len := 1) (by decide +kernel) rfl,
   fun v1 x st h Q => gx_one (i := .aload_n 0) (len := 1) (by decide +kernel) rfl,
   fun v0 v1 a st h Q => gx_get (x := 25) (by decide +kernel) (by decide +kernel),
   fun v0 x st h Q => gx_one (i := .iload_n 1) (len := 1) (by decide +kernel) rfl,
   fun v0 v1 a x st h Q => gx_iald (by decide +kernel),
   fun v0 v1 a0 r0 h Q => gx_stat (x := 47) (t := 21) (n := 1) (by decide +kernel) (by decide +kernel) (by decide) (by decide +kernel) rfl (Or.inl (Nat.le_of_ble_eq_true rfl)) (by show _ ≤ mr_mxl 21; rw [show mr_mxl 21 = 2 from by decide +kernel]; exact Nat.le_of_ble_eq_true rfl),
   fun v0 v1 a0 a1 h Q => gx_stat (x := 50) (t := 92) (n := 2) (by decide +kernel) (by decide +kernel) (by decide) (by decide +kernel) rfl (Or.inl (Nat.le_of_ble_eq_true rfl)) (by show _ ≤ mr_mxl 92; rw [show mr_mxl 92 = 2 from by decide +kernel]; exact Nat.le_of_ble_eq_true rfl),
   fun v0 v1 x h Q => gx_ret (i := .ireturn) (len := 1) (by decide +kernel) rfl rfl (by simp only [mr_rt, if_pos]; rw [if_pos (Or.inl (by decide +kernel))]),
   fun x w0 st h Q => gx_one (i := .iinc 1 1) (len := 3) (by decide +kernel) rfl,
   fun v0 v1 st h Q => gx_one (i := .goto (-34)) (len := 3) (by decide +kernel) rfl,
   fun v0 v1 st h Q => gx_one (i := .bipush (-9)) (len := 2) (by decide +kernel) rfl,
   fun v0 v1 x h Q => gx_ret (i := .ireturn) (len := 1) (by decide +kernel) rfl rfl (by simp only [mr_rt, if_pos]; rw [if_pos (Or.inl (by decide +kernel))])⟩
theorem S_rl_next : (∀ (x : Nat) (st : List Value) (h : mr_h) (Q : Option Value → mr_h → Prop), mr_wp 108 0 [.ref x] st h Q = mr_wp 108 1 [.ref x] (.ref x :: st) h Q) ∧
    (∀ (v0 : Value) (a : Nat) (st : List Value) (h : mr_h) (Q : Option Value → mr_h → Prop), mr_wp 108 1 [v0] (.ref a :: st) h Q = mr_gf (h.1 a) 10 8 (fun v => mr_wp 108 4 [v0] (v :: st) h Q)) ∧
    (∀ (x : Nat) (st : List Value) (h : mr_h) (Q : Option Value → mr_h → Prop), mr_wp 108 4 [.ref x] st h Q = mr_wp 108 5 [.ref x] (.ref x :: st) h Q) ∧
    (∀ (v0 : Value) (a : Nat) (st : List Value) (h : mr_h) (Q : Option Value → mr_h → Prop), mr_wp 108 5 [v0] (.ref a :: st) h Q = mr_gf (h.1 a) 10 0 (fun v => mr_wp 108 8 [v0] (v :: st) h Q)) ∧
    (∀ (x : Nat) (st : List Value) (h : mr_h) (Q : Option Value → mr_h → Prop), mr_wp 108 8 [.ref x] st h Q = mr_wp 108 9 [.ref x] (.ref x :: st) h Q) ∧
    (∀ (v0 : Value) (a : Nat) (st : List Value) (h : mr_h) (Q : Option Value → mr_h → Prop), mr_wp 108 9 [v0] (.ref a :: st) h Q = mr_gf (h.1 a) 10 3 (fun v => mr_wp 108 12 [v0] (v :: st) h Q)) ∧
    (∀ (v0 : Value) (a0 : Nat) (a1 : Nat) (o : Nat) (h : mr_h) (Q : Option Value → mr_h → Prop), mr_wp 108 12 [v0] [.ref a1, .ref a0, .ref o] h Q = mr_rc (h.1 o) 8 (mr_run 104 [.ref o, .ref a0, .ref a1] h (fun v h' => mr_wp 108 15 [v0] (v.toList ++ []) h' Q))) ∧
    (∀ (x : Nat) (st : List Value) (h : mr_h) (Q : Option Value → mr_h → Prop), mr_wp 108 15 [.ref x] st h Q = mr_wp 108 16 [.ref x] (.ref x :: st) h Q) ∧
    (∀ (v0 : Value) (a : Nat) (st : List Value) (h : mr_h) (Q : Option Value → mr_h → Prop), mr_wp 108 16 [v0] (.ref a :: st) h Q = mr_gf (h.1 a) 10 8 (fun v => mr_wp 108 19 [v0] (v :: st) h Q)) ∧
    (∀ (x : Nat) (st : List Value) (h : mr_h) (Q : Option Value → mr_h → Prop), mr_wp 108 19 [.ref x] st h Q = mr_wp 108 20 [.ref x] (.ref x :: st) h Q) ∧
    (∀ (v0 : Value) (a : Nat) (st : List Value) (h : mr_h) (Q : Option Value → mr_h → Prop), mr_wp 108 20 [v0] (.ref a :: st) h Q = mr_gf (h.1 a) 10 3 (fun v => mr_wp 108 23 [v0] (v :: st) h Q)) ∧
    (∀ (v0 : Value) (a0 : Nat) (o : Nat) (h : mr_h) (Q : Option Value → mr_h → Prop), mr_wp 108 23 [v0] [.ref a0, .ref o] h Q = mr_rc (h.1 o) 8 (mr_run 109 [.ref o, .ref a0] h (fun v h' => mr_wp 108 26 [v0] (v.toList ++ []) h' Q))) ∧
    (∀ (v0 : Value) (x : Int32) (h : mr_h) (Q : Option Value → mr_h → Prop), mr_wp 108 26 [v0] [.int x] h Q = Q (some (.int x)) h) :=
  ⟨fun x st h Q => gx_one (i := .aload_n 0) (len := 1) (by decide +kernel) rfl,
   fun v0 a st h Q => gx_get (x := 64) (by decide +kernel) (by decide +kernel),
   fun x st h Q => gx_one (i := .aload_n 0) (len := 1) (by decide +kernel) rfl,
   fun v0 a st h Q => gx_get (x := 10) (by decide +kernel) (by decide +kernel),
   fun x st h Q => gx_one (i := .aload_n 0) (len := 1) (by decide +kernel) rfl,
   fun v0 a st h Q => gx_get (x := 29) (by decide +kernel) (by decide +kernel),
   fun v0 a0 a1 o h Q => gx_virt (x := 231) (n := 2) (by decide +kernel) (by decide +kernel) rfl (Or.inl (Nat.le_of_ble_eq_true rfl)) (by show _ ≤ mr_mxl 104; rw [show mr_mxl 104 = 6 from by decide +kernel]; exact Nat.le_of_ble_eq_true rfl) (by decide +kernel),
   fun x st h Q => gx_one (i := .aload_n 0) (len := 1) (by decide +kernel) rfl,
   fun v0 a st h Q => gx_get (x := 64) (by decide +kernel) (by decide +kernel),
   fun x st h Q => gx_one (i := .aload_n 0) (len := 1) (by decide +kernel) rfl,
   fun v0 a st h Q => gx_get (x := 29) (by decide +kernel) (by decide +kernel),
   fun v0 a0 o h Q => gx_virt (x := 241) (n := 1) (by decide +kernel) (by decide +kernel) rfl (Or.inl (Nat.le_of_ble_eq_true rfl)) (by show _ ≤ mr_mxl 109; rw [show mr_mxl 109 = 9 from by decide +kernel]; exact Nat.le_of_ble_eq_true rfl) (by decide +kernel),
   fun v0 x h Q => gx_ret (i := .ireturn) (len := 1) (by decide +kernel) rfl rfl (by simp only [mr_rt, if_pos]; rw [if_pos (Or.inl (by decide +kernel))])⟩
theorem s_si_bestQuestion_24 (v0 v1 v2 v3 v4 v6 v7 v8 : Value) (x : Int32) (st : List Value) (h : mr_h) (Q : Option Value → mr_h → Prop) : mr_wp 109 24 [v0, v1, v2, v3, v4, .int x, v6, v7, v8] st h Q = mr_wp 109 26 [v0, v1, v2, v3, v4, .int x, v6, v7, v8] (.int x :: st) h Q := gx_one (i := .iload 5) (len := 2) (by decide +kernel) rfl
theorem s_si_bestQuestion_36 (v0 v1 v2 v3 v4 v5 v7 v8 : Value) (x : Int32) (st : List Value) (h : mr_h) (Q : Option Value → mr_h → Prop) : mr_wp 109 36 [v0, v1, v2, v3, v4, v5, .int x, v7, v8] st h Q = mr_wp 109 38 [v0, v1, v2, v3, v4, v5, .int x, v7, v8] (.int x :: st) h Q := gx_one (i := .iload 6) (len := 2) (by decide +kernel) rfl
theorem S_si_bestQuestion_0 : (∀ (v1 v2 v3 v4 v5 v6 v7 v8 : Value) (x : Nat) (st : List Value) (h : mr_h) (Q : Option Value → mr_h → Prop), mr_wp 109 0 [.ref x, v1, v2, v3, v4, v5, v6, v7, v8] st h Q = mr_wp 109 1 [.ref x, v1, v2, v3, v4, v5, v6, v7, v8] (.ref x :: st) h Q) ∧
    (∀ (v0 v1 v2 v3 v4 v5 v6 v7 v8 : Value) (o : Nat) (h : mr_h) (Q : Option Value → mr_h → Prop), mr_wp 109 1 [v0, v1, v2, v3, v4, v5, v6, v7, v8] [.ref o] h Q = mr_rc (h.1 o) 8 (mr_run 106 [.ref o] h (fun v h' => mr_wp 109 4 [v0, v1, v2, v3, v4, v5, v6, v7, v8] (v.toList ++ []) h' Q))) ∧
    (∀ (v0 v2 v3 v4 v5 v6 v7 v8 : Value) (w1 : Nat) (x : Int32) (st : List Value) (h : mr_h) (Q : Option Value → mr_h → Prop), mr_wp 109 4 [v0, .ref w1, v2, v3, v4, v5, v6, v7, v8] (.int x :: st) h Q = mr_wp 109 5 [v0, .ref w1, .int x, v3, v4, v5, v6, v7, v8] st h Q) ∧
    (∀ (v0 v1 v3 v4 v5 v6 v7 v8 : Value) (x : Int32) (st : List Value) (h : mr_h) (Q : Option Value → mr_h → Prop), mr_wp 109 5 [v0, v1, .int x, v3, v4, v5, v6, v7, v8] st h Q = mr_wp 109 6 [v0, v1, .int x, v3, v4, v5, v6, v7, v8] (.int x :: st) h Q) ∧
    (∀ (v0 v1 v2 v3 v4 v5 v6 v7 v8 : Value) (st : List Value) (h : mr_h) (Q : Option Value → mr_h → Prop), mr_wp 109 6 [v0, v1, v2, v3, v4, v5, v6, v7, v8] st h Q = mr_wp 109 7 [v0, v1, v2, v3, v4, v5, v6, v7, v8] (.int (1) :: st) h Q) ∧
    (∀ (v0 v1 v2 v3 v4 v5 v6 v7 v8 : Value) (x : Int32) (y : Int32) (st : List Value) (h : mr_h) (Q : Option Value → mr_h → Prop), mr_wp 109 7 [v0, v1, v2, v3, v4, v5, v6, v7, v8] (.int y :: .int x :: st) h Q = if y < x then mr_wp 109 13 [v0, v1, v2, v3, v4, v5, v6, v7, v8] st h Q else mr_wp 109 10 [v0, v1, v2, v3, v4, v5, v6, v7, v8] st h Q) ∧
    (∀ (v0 v1 v2 v3 v4 v5 v6 v7 v8 : Value) (st : List Value) (h : mr_h) (Q : Option Value → mr_h → Prop), mr_wp 109 10 [v0, v1, v2, v3, v4, v5, v6, v7, v8] st h Q = mr_wp 109 12 [v0, v1, v2, v3, v4, v5, v6, v7, v8] (.int (-9) :: st) h Q) ∧
    (∀ (v0 v1 v2 v3 v4 v5 v6 v7 v8 : Value) (x : Int32) (h : mr_h) (Q : Option Value → mr_h → Prop), mr_wp 109 12 [v0, v1, v2, v3, v4, v5, v6, v7, v8] [.int x] h Q = Q (some (.int x)) h) ∧
    (∀ (v0 v1 v2 v3 v4 v5 v6 v7 v8 : Value) (st : List Value) (h : mr_h) (Q : Option Value → mr_h → Prop), mr_wp 109 13 [v0, v1, v2, v3, v4, v5, v6, v7, v8] st h Q = mr_wp 109 15 [v0, v1, v2, v3, v4, v5, v6, v7, v8] (.int (-9) :: st) h Q) ∧
    (∀ (v0 v1 v3 v4 v5 v6 v7 v8 : Value) (w2 : Int32) (x : Int32) (st : List Value) (h : mr_h) (Q : Option Value → mr_h → Prop), mr_wp 109 15 [v0, v1, .int w2, v3, v4, v5, v6, v7, v8] (.int x :: st) h Q = mr_wp 109 16 [v0, v1, .int w2, .int x, v4, v5, v6, v7, v8] st h Q) ∧
    (∀ (v0 v1 v3 v4 v5 v6 v7 v8 : Value) (x : Int32) (st : List Value) (h : mr_h) (Q : Option Value → mr_h → Prop), mr_wp 109 16 [v0, v1, .int x, v3, v4, v5, v6, v7, v8] st h Q = mr_wp 109 17 [v0, v1, .int x, v3, v4, v5, v6, v7, v8] (.int x :: st) h Q) ∧
    (∀ (v0 v1 v2 v3 v4 v5 v6 v7 v8 : Value) (st : List Value) (h : mr_h) (Q : Option Value → mr_h → Prop), mr_wp 109 17 [v0, v1, v2, v3, v4, v5, v6, v7, v8] st h Q = mr_wp 109 18 [v0, v1, v2, v3, v4, v5, v6, v7, v8] (.int (1) :: st) h Q) ∧
    (∀ (v0 v1 v2 v3 v4 v5 v6 v7 v8 : Value) (x : Int32) (y : Int32) (st : List Value) (h : mr_h) (Q : Option Value → mr_h → Prop), mr_wp 109 18 [v0, v1, v2, v3, v4, v5, v6, v7, v8] (.int y :: .int x :: st) h Q = mr_wp 109 19 [v0, v1, v2, v3, v4, v5, v6, v7, v8] (.int (x + y) :: st) h Q) ∧
    (∀ (v0 v1 v2 v4 v5 v6 v7 v8 : Value) (w3 : Int32) (x : Int32) (st : List Value) (h : mr_h) (Q : Option Value → mr_h → Prop), mr_wp 109 19 [v0, v1, v2, .int w3, v4, v5, v6, v7, v8] (.int x :: st) h Q = mr_wp 109 21 [v0, v1, v2, .int w3, .int x, v5, v6, v7, v8] st h Q) ∧
    (∀ (v0 v1 v2 v3 v4 v5 v6 v7 v8 : Value) (st : List Value) (h : mr_h) (Q : Option Value → mr_h → Prop), mr_wp 109 21 [v0, v1, v2, v3, v4, v5, v6, v7, v8] st h Q = mr_wp 109 22 [v0, v1, v2, v3, v4, v5, v6, v7, v8] (.int (0) :: st) h Q) ∧
    (∀ (v0 v1 v2 v3 v5 v6 v7 v8 : Value) (w4 : Int32) (x : Int32) (st : List Value) (h : mr_h) (Q : Option Value → mr_h → Prop), mr_wp 109 22 [v0, v1, v2, v3, .int w4, v5, v6, v7, v8] (.int x :: st) h Q = mr_wp 109 24 [v0, v1, v2, v3, .int w4, .int x, v6, v7, v8] st h Q) ∧
    (∀ (v1 v2 v3 v4 v5 v6 v7 v8 : Value) (x : Nat) (st : List Value) (h : mr_h) (Q : Option Value → mr_h → Prop), mr_wp 109 26 [.ref x, v1, v2, v3, v4, v5, v6, v7, v8] st h Q = mr_wp 109 27 [.ref x, v1, v2, v3, v4, v5, v6, v7, v8] (.ref x :: st) h Q) ∧
    (∀ (v0 v1 v2 v3 v4 v5 v6 v7 v8 : Value) (a : Nat) (st : List Value) (h : mr_h) (Q : Option Value → mr_h → Prop), mr_wp 109 27 [v0, v1, v2, v3, v4, v5, v6, v7, v8] (.ref a :: st) h Q = mr_gf (h.1 a) 8 5 (fun v => mr_wp 109 30 [v0, v1, v2, v3, v4, v5, v6, v7, v8] (v :: st) h Q)) ∧
    (∀ (v0 v1 v2 v3 v4 v5 v6 v7 v8 : Value) (x : Int32) (y : Int32) (st : List Value) (h : mr_h) (Q : Option Value → mr_h → Prop), mr_wp 109 30 [v0, v1, v2, v3, v4, v5, v6, v7, v8] (.int y :: .int x :: st) h Q = if y ≤ x then mr_wp 109 116 [v0, v1, v2, v3, v4, v5, v6, v7, v8] st h Q else mr_wp 109 33 [v0, v1, v2, v3, v4, v5, v6, v7, v8] st h Q) ∧
    (∀ (v0 v1 v2 v3 v4 v5 v6 v7 v8 : Value) (st : List Value) (h : mr_h) (Q : Option Value → mr_h → Prop), mr_wp 109 33 [v0, v1, v2, v3, v4, v5, v6, v7, v8] st h Q = mr_wp 109 34 [v0, v1, v2, v3, v4, v5, v6, v7, v8] (.int (0) :: st) h Q) ∧
    (∀ (v0 v1 v2 v3 v4 v6 v7 v8 : Value) (w5 : Int32) (x : Int32) (st : List Value) (h : mr_h) (Q : Option Value → mr_h → Prop), mr_wp 109 34 [v0, v1, v2, v3, v4, .int w5, v6, v7, v8] (.int x :: st) h Q = mr_wp 109 36 [v0, v1, v2, v3, v4, .int w5, .int x, v7, v8] st h Q) ∧
    (∀ (v1 v2 v3 v4 v5 v6 v7 v8 : Value) (x : Nat) (st : List Value) (h : mr_h) (Q : Option Value → mr_h → Prop), mr_wp 109 38 [.ref x, v1, v2, v3, v4, v5, v6, v7, v8] st h Q = mr_wp 109 39 [.ref x, v1, v2, v3, v4, v5, v6, v7, v8] (.ref x :: st) h Q) ∧
    (∀ (v0 v1 v2 v3 v4 v5 v6 v7 v8 : Value) (a : Nat) (st : List Value) (h : mr_h) (Q : Option Value → mr_h → Prop), mr_wp 109 39 [v0, v1, v2, v3, v4, v5, v6, v7, v8] (.ref a :: st) h Q = mr_gf (h.1 a) 8 5 (fun v => mr_wp 109 42 [v0, v1, v2, v3, v4, v5, v6, v7, v8] (v :: st) h Q)) ∧
    (∀ (v0 v1 v2 v3 v4 v5 v6 v7 v8 : Value) (x : Int32) (y : Int32) (st : List Value) (h : mr_h) (Q : Option Value → mr_h → Prop), mr_wp 109 42 [v0, v1, v2, v3, v4, v5, v6, v7, v8] (.int y :: .int x :: st) h Q = if y ≤ x then mr_wp 109 110 [v0, v1, v2, v3, v4, v5, v6, v7, v8] st h Q else mr_wp 109 45 [v0, v1, v2, v3, v4, v5, v6, v7, v8] st h Q) ∧
    (∀ (v0 v1 v2 v3 v4 v6 v7 v8 : Value) (x : Int32) (st : List Value) (h : mr_h) (Q : Option Value → mr_h → Prop), mr_wp 109 45 [v0, v1, v2, v3, v4, .int x, v6, v7, v8] st h Q = mr_wp 109 47 [v0, v1, v2, v3, v4, .int x, v6, v7, v8] (.int x :: st) h Q) ∧
    (∀ (v0 v1 v2 v3 v4 v5 v7 v8 : Value) (x : Int32) (st : List Value) (h : mr_h) (Q : Option Value → mr_h → Prop), mr_wp 109 47 [v0, v1, v2, v3, v4, v5, .int x, v7, v8] st h Q = mr_wp 109 49 [v0, v1, v2, v3, v4, v5, .int x, v7, v8] (.int x :: st) h Q) ∧
    (∀ (v0 v1 v2 v3 v4 v5 v6 v7 v8 : Value) (x : Int32) (y : Int32) (st : List Value) (h : mr_h) (Q : Option Value → mr_h → Prop), mr_wp 109 49 [v0, v1, v2, v3, v4, v5, v6, v7, v8] (.int y :: .int x :: st) h Q = if ¬ x = y then mr_wp 109 56 [v0, v1, v2, v3, v4, v5, v6, v7, v8] st h Q else mr_wp 109 52 [v0, v1, v2, v3, v4, v5, v6, v7, v8] st h Q) ∧
    (∀ (v0 v1 v2 v3 v4 v5 v6 v7 v8 : Value) (st : List Value) (h : mr_h) (Q : Option Value → mr_h → Prop), mr_wp 109 52 [v0, v1, v2, v3, v4, v5, v6, v7, v8] st h Q = mr_wp 109 53 [v0, v1, v2, v3, v4, v5, v6, v7, v8] (.int (0) :: st) h Q) ∧
    (∀ (v0 v1 v2 v3 v4 v5 v6 v7 v8 : Value) (st : List Value) (h : mr_h) (Q : Option Value → mr_h → Prop), mr_wp 109 53 [v0, v1, v2, v3, v4, v5, v6, v7, v8] st h Q = mr_wp 109 65 [v0, v1, v2, v3, v4, v5, v6, v7, v8] st h Q) ∧
    (∀ (v1 v2 v3 v4 v5 v6 v7 v8 : Value) (x : Nat) (st : List Value) (h : mr_h) (Q : Option Value → mr_h → Prop), mr_wp 109 56 [.ref x, v1, v2, v3, v4, v5, v6, v7, v8] st h Q = mr_wp 109 57 [.ref x, v1, v2, v3, v4, v5, v6, v7, v8] (.ref x :: st) h Q) ∧
    (∀ (v0 v2 v3 v4 v5 v6 v7 v8 : Value) (x : Nat) (st : List Value) (h : mr_h) (Q : Option Value → mr_h → Prop), mr_wp 109 57 [v0, .ref x, v2, v3, v4, v5, v6, v7, v8] st h Q = mr_wp 109 58 [v0, .ref x, v2, v3, v4, v5, v6, v7, v8] (.ref x :: st) h Q) ∧
    (∀ (v0 v1 v2 v3 v4 v6 v7 v8 : Value) (x : Int32) (st : List Value) (h : mr_h) (Q : Option Value → mr_h → Prop), mr_wp 109 58 [v0, v1, v2, v3, v4, .int x, v6, v7, v8] st h Q = mr_wp 109 60 [v0, v1, v2, v3, v4, .int x, v6, v7, v8] (.int x :: st) h Q) ∧
    (∀ (v0 v1 v2 v3 v4 v5 v7 v8 : Value) (x : Int32) (st : List Value) (h : mr_h) (Q : Option Value → mr_h → Prop), mr_wp 109 60 [v0, v1, v2, v3, v4, v5, .int x, v7, v8] st h Q = mr_wp 109 62 [v0, v1, v2, v3, v4, v5, .int x, v7, v8] (.int x :: st) h Q) ∧
    (∀ (v0 v1 v2 v3 v4 v5 v6 v7 v8 : Value) (a0 : Nat) (a1 : Int32) (a2 : Int32) (o : Nat) (h : mr_h) (Q : Option Value → mr_h → Prop), mr_wp 109 62 [v0, v1, v2, v3, v4, v5, v6, v7, v8] [.int a2, .int a1, .ref a0, .ref o] h Q = mr_rc (h.1 o) 8 (mr_run 110 [.ref o, .ref a0, .int a1, .int a2] h (fun v h' => mr_wp 109 65 [v0, v1, v2, v3, v4, v5, v6, v7, v8] (v.toList ++ []) h' Q))) ∧
    (∀ (v0 v1 v2 v3 v4 v5 v7 v8 : Value) (w6 : Int32) (x : Int32) (st : List Value) (h : mr_h) (Q : Option Value → mr_h → Prop), mr_wp 109 65 [v0, v1, v2, v3, v4, v5, .int w6, v7, v8] (.int x :: st) h Q = mr_wp 109 67 [v0, v1, v2, v3, v4, v5, .int w6, .int x, v8] st h Q) ∧
    (∀ (v0 v1 v2 v3 v4 v5 v6 v8 : Value) (x : Int32) (st : List Value) (h : mr_h) (Q : Option Value → mr_h → Prop), mr_wp 109 67 [v0, v1, v2, v3, v4, v5, v6, .int x, v8] st h Q = mr_wp 109 69 [v0, v1, v2, v3, v4, v5, v6, .int x, v8] (.int x :: st) h Q) ∧
    (∀ (v0 v1 v3 v4 v5 v6 v7 v8 : Value) (x : Int32) (st : List Value) (h : mr_h) (Q : Option Value → mr_h → Prop), mr_wp 109 69 [v0, v1, .int x, v3, v4, v5, v6, v7, v8] st h Q = mr_wp 109 70 [v0, v1, .int x, v3, v4, v5, v6, v7, v8] (.int x :: st) h Q) ∧
    (∀ (v0 v1 v2 v3 v4 v5 v6 v8 : Value) (x : Int32) (st : List Value) (h : mr_h) (Q : Option Value → mr_h → Prop), mr_wp 109 70 [v0, v1, v2, v3, v4, v5, v6, .int x, v8] st h Q = mr_wp 109 72 [v0, v1, v2, v3, v4, v5, v6, .int x, v8] (.int x :: st) h Q) ∧
    (∀ (v0 v1 v2 v3 v4 v5 v6 v7 v8 : Value) (x : Int32) (y : Int32) (st : List Value) (h : mr_h) (Q : Option Value → mr_h → Prop), mr_wp 109 72 [v0, v1, v2, v3, v4, v5, v6, v7, v8] (.int y :: .int x :: st) h Q = mr_wp 109 73 [v0, v1, v2, v3, v4, v5, v6, v7, v8] (.int (x - y) :: st) h Q) ∧
    (∀ (v0 v1 v2 v3 v4 v5 v6 v7 v8 : Value) (x : Int32) (y : Int32) (h : mr_h) (Q : Option Value → mr_h → Prop), mr_wp 109 73 [v0, v1, v2, v3, v4, v5, v6, v7, v8] [.int y, .int x] h Q = mr_wp 109 76 [v0, v1, v2, v3, v4, v5, v6, v7, v8] [.int (if x < y then y else x)] h Q) :=
  ⟨fun v1 v2 v3 v4 v5 v6 v7 v8 x st h Q => gx_one (i := .aload_n 0) (len := 1) (by decide +kernel) rfl,
   fun v0 v1 v2 v3 v4 v5 v6 v7 v8 o h Q => gx_virt (x := 54) (n := 0) (by decide +kernel) (by decide +kernel) rfl (Or.inl (Nat.le_of_ble_eq_true rfl)) (by show _ ≤ mr_mxl 106; rw [show mr_mxl 106 = 3 from by decide +kernel]; exact Nat.le_of_ble_eq_true rfl) (by decide +kernel),
   fun v0 v2 v3 v4 v5 v6 v7 v8 w1 x st h Q => gx_one (i := .istore_n 2) (len := 1) (by decide +kernel) rfl,
   fun v0 v1 v3 v4 v5 v6 v7 v8 x st h Q => gx_one (i := .iload_n 2) (len := 1) (by decide +kernel) rfl,
   fun v0 v1 v2 v3 v4 v5 v6 v7 v8 st h Q => gx_one (i := .iconst 1) (len := 1) (by decide +kernel) rfl,
   fun v0 v1 v2 v3 v4 v5 v6 v7 v8 x y st h Q => gx_br (i := .if_icmp .gt 6) (len := 3) (c := .gt) (by decide +kernel) rfl rfl,
   fun v0 v1 v2 v3 v4 v5 v6 v7 v8 st h Q => gx_one (i := .bipush (-9)) (len := 2) (by decide +kernel) rfl,
   fun v0 v1 v2 v3 v4 v5 v6 v7 v8 x h Q => gx_ret (i := .ireturn) (len := 1) (by decide +kernel) rfl rfl (by simp only [mr_rt, if_pos]; rw [if_pos (Or.inl (by decide +kernel))]),
   fun v0 v1 v2 v3 v4 v5 v6 v7 v8 st h Q => gx_one (i := .bipush (-9)) (len := 2) (by decide +kernel) rfl,
   fun v0 v1 v3 v4 v5 v6 v7 v8 w2 x st h Q => gx_one (i := .istore_n 3) (len := 1) (by decide +kernel) rfl,
   fun v0 v1 v3 v4 v5 v6 v7 v8 x st h Q => gx_one (i := .iload_n 2) (len := 1) (by decide +kernel) rfl,
   fun v0 v1 v2 v3 v4 v5 v6 v7 v8 st h Q => gx_one (i := .iconst 1) (len := 1) (by decide +kernel) rfl,
   fun v0 v1 v2 v3 v4 v5 v6 v7 v8 x y st h Q => gx_one (i := .iadd) (len := 1) (by decide +kernel) rfl,
   fun v0 v1 v2 v4 v5 v6 v7 v8 w3 x st h Q => gx_one (i := .istore 4) (len := 2) (by decide +kernel) rfl,
   fun v0 v1 v2 v3 v4 v5 v6 v7 v8 st h Q => gx_one (i := .iconst 0) (len := 1) (by decide +kernel) rfl,
   fun v0 v1 v2 v3 v5 v6 v7 v8 w4 x st h Q => gx_one (i := .istore 5) (len := 2) (by decide +kernel) rfl,
   fun v1 v2 v3 v4 v5 v6 v7 v8 x st h Q => gx_one (i := .aload_n 0) (len := 1) (by decide +kernel) rfl,
   fun v0 v1 v2 v3 v4 v5 v6 v7 v8 a st h Q => gx_get (x := 28) (by decide +kernel) (by decide +kernel),
   fun v0 v1 v2 v3 v4 v5 v6 v7 v8 x y st h Q => gx_br (i := .if_icmp .ge 86) (len := 3) (c := .ge) (by decide +kernel) rfl rfl,
   fun v0 v1 v2 v3 v4 v5 v6 v7 v8 st h Q => gx_one (i := .iconst 0) (len := 1) (by decide +kernel) rfl,
   fun v0 v1 v2 v3 v4 v6 v7 v8 w5 x st h Q => gx_one (i := .istore 6) (len := 2) (by decide +kernel) rfl,
   fun v1 v2 v3 v4 v5 v6 v7 v8 x st h Q => gx_one (i := .aload_n 0) (len := 1) (by decide +kernel) rfl,
   fun v0 v1 v2 v3 v4 v5 v6 v7 v8 a st h Q => gx_get (x := 28) (by decide +kernel) (by decide +kernel),
   fun v0 v1 v2 v3 v4 v5 v6 v7 v8 x y st h Q => gx_br (i := .if_icmp .ge 68) (len := 3) (c := .ge) (by decide +kernel) rfl rfl,
   fun v0 v1 v2 v3 v4 v6 v7 v8 x st h Q => gx_one (i := .iload 5) (len := 2) (by decide +kernel) rfl,
   fun v0 v1 v2 v3 v4 v5 v7 v8 x st h Q => gx_one (i := .iload 6) (len := 2) (by decide +kernel) rfl,
   fun v0 v1 v2 v3 v4 v5 v6 v7 v8 x y st h Q => gx_br (i := .if_icmp .ne 7) (len := 3) (c := .ne) (by decide +kernel) rfl rfl,
   fun v0 v1 v2 v3 v4 v5 v6 v7 v8 st h Q => gx_one (i := .iconst 0) (len := 1) (by decide +kernel) rfl,
   fun v0 v1 v2 v3 v4 v5 v6 v7 v8 st h Q => gx_one (i := .goto 12) (len := 3) (by decide +kernel) rfl,
   fun v1 v2 v3 v4 v5 v6 v7 v8 x st h Q => gx_one (i := .aload_n 0) (len := 1) (by decide +kernel) rfl,
   fun v0 v2 v3 v4 v5 v6 v7 v8 x st h Q => gx_one (i := .aload_n 1) (len := 1) (by decide +kernel) rfl,
   fun v0 v1 v2 v3 v4 v6 v7 v8 x st h Q => gx_one (i := .iload 5) (len := 2) (by decide +kernel) rfl,
   fun v0 v1 v2 v3 v4 v5 v7 v8 x st h Q => gx_one (i := .iload 6) (len := 2) (by decide +kernel) rfl,
   fun v0 v1 v2 v3 v4 v5 v6 v7 v8 a0 a1 a2 o h Q => gx_virt (x := 58) (n := 3) (by decide +kernel) (by decide +kernel) rfl (Or.inl (Nat.le_of_ble_eq_true rfl)) (by show _ ≤ mr_mxl 110; rw [show mr_mxl 110 = 6 from by decide +kernel]; exact Nat.le_of_ble_eq_true rfl) (by decide +kernel),
   fun v0 v1 v2 v3 v4 v5 v7 v8 w6 x st h Q => gx_one (i := .istore 7) (len := 2) (by decide +kernel) rfl,
   fun v0 v1 v2 v3 v4 v5 v6 v8 x st h Q => gx_one (i := .iload 7) (len := 2) (by decide +kernel) rfl,
   fun v0 v1 v3 v4 v5 v6 v7 v8 x st h Q => gx_one (i := .iload_n 2) (len := 1) (by decide +kernel) rfl,
   fun v0 v1 v2 v3 v4 v5 v6 v8 x st h Q => gx_one (i := .iload 7) (len := 2) (by decide +kernel) rfl,
   fun v0 v1 v2 v3 v4 v5 v6 v7 v8 x y st h Q => gx_one (i := .isub) (len := 1) (by decide +kernel) rfl,
   fun v0 v1 v2 v3 v4 v5 v6 v7 v8 x y h Q => gx_max (x := 62) (by decide +kernel) (by decide +kernel) (Nat.le_of_ble_eq_true rfl)⟩
theorem S_si_bestQuestion_1 : (∀ (v0 v1 v2 v3 v4 v5 v6 v8 : Value) (w7 : Int32) (x : Int32) (st : List Value) (h : mr_h) (Q : Option Value → mr_h → Prop), mr_wp 109 76 [v0, v1, v2, v3, v4, v5, v6, .int w7, v8] (.int x :: st) h Q = mr_wp 109 78 [v0, v1, v2, v3, v4, v5, v6, .int w7, .int x] st h Q) ∧
    (∀ (v0 v1 v2 v3 v4 v6 v7 v8 : Value) (x : Int32) (st : List Value) (h : mr_h) (Q : Option Value → mr_h → Prop), mr_wp 109 78 [v0, v1, v2, v3, v4, .int x, v6, v7, v8] st h Q = mr_wp 109 80 [v0, v1, v2, v3, v4, .int x, v6, v7, v8] (.int x :: st) h Q) ∧
    (∀ (v0 v1 v2 v3 v4 v5 v7 v8 : Value) (x : Int32) (st : List Value) (h : mr_h) (Q : Option Value → mr_h → Prop), mr_wp 109 80 [v0, v1, v2, v3, v4, v5, .int x, v7, v8] st h Q = mr_wp 109 82 [v0, v1, v2, v3, v4, v5, .int x, v7, v8] (.int x :: st) h Q) ∧
    (∀ (v0 v1 v2 v3 v4 v5 v6 v7 v8 : Value) (x : Int32) (y : Int32) (st : List Value) (h : mr_h) (Q : Option Value → mr_h → Prop), mr_wp 109 82 [v0, v1, v2, v3, v4, v5, v6, v7, v8] (.int y :: .int x :: st) h Q = if x = y then mr_wp 109 104 [v0, v1, v2, v3, v4, v5, v6, v7, v8] st h Q else mr_wp 109 85 [v0, v1, v2, v3, v4, v5, v6, v7, v8] st h Q) ∧
    (∀ (v0 v1 v2 v3 v4 v5 v6 v7 : Value) (x : Int32) (st : List Value) (h : mr_h) (Q : Option Value → mr_h → Prop), mr_wp 109 85 [v0, v1, v2, v3, v4, v5, v6, v7, .int x] st h Q = mr_wp 109 87 [v0, v1, v2, v3, v4, v5, v6, v7, .int x] (.int x :: st) h Q) ∧
    (∀ (v0 v1 v2 v3 v5 v6 v7 v8 : Value) (x : Int32) (st : List Value) (h : mr_h) (Q : Option Value → mr_h → Prop), mr_wp 109 87 [v0, v1, v2, v3, .int x, v5, v6, v7, v8] st h Q = mr_wp 109 89 [v0, v1, v2, v3, .int x, v5, v6, v7, v8] (.int x :: st) h Q) ∧
    (∀ (v0 v1 v2 v3 v4 v5 v6 v7 v8 : Value) (x : Int32) (y : Int32) (st : List Value) (h : mr_h) (Q : Option Value → mr_h → Prop), mr_wp 109 89 [v0, v1, v2, v3, v4, v5, v6, v7, v8] (.int y :: .int x :: st) h Q = if y ≤ x then mr_wp 109 104 [v0, v1, v2, v3, v4, v5, v6, v7, v8] st h Q else mr_wp 109 92 [v0, v1, v2, v3, v4, v5, v6, v7, v8] st h Q) ∧
    (∀ (v0 v1 v2 v3 v4 v5 v6 v7 : Value) (x : Int32) (st : List Value) (h : mr_h) (Q : Option Value → mr_h → Prop), mr_wp 109 92 [v0, v1, v2, v3, v4, v5, v6, v7, .int x] st h Q = mr_wp 109 94 [v0, v1, v2, v3, v4, v5, v6, v7, .int x] (.int x :: st) h Q) ∧
    (∀ (v0 v1 v2 v4 v5 v6 v7 v8 : Value) (w3 : Int32) (x : Int32) (st : List Value) (h : mr_h) (Q : Option Value → mr_h → Prop), mr_wp 109 94 [v0, v1, v2, .int w3, v4, v5, v6, v7, v8] (.int x :: st) h Q = mr_wp 109 96 [v0, v1, v2, .int w3, .int x, v5, v6, v7, v8] st h Q) ∧
    (∀ (v0 v1 v2 v3 v4 v6 v7 v8 : Value) (x : Int32) (st : List Value) (h : mr_h) (Q : Option Value → mr_h → Prop), mr_wp 109 96 [v0, v1, v2, v3, v4, .int x, v6, v7, v8] st h Q = mr_wp 109 98 [v0, v1, v2, v3, v4, .int x, v6, v7, v8] (.int x :: st) h Q) ∧
    (∀ (v0 v1 v2 v3 v4 v5 v7 v8 : Value) (x : Int32) (st : List Value) (h : mr_h) (Q : Option Value → mr_h → Prop), mr_wp 109 98 [v0, v1, v2, v3, v4, v5, .int x, v7, v8] st h Q = mr_wp 109 100 [v0, v1, v2, v3, v4, v5, .int x, v7, v8] (.int x :: st) h Q) ∧
    (∀ (v0 v1 v2 v3 v4 v5 v6 v7 v8 : Value) (a0 : Int32) (a1 : Int32) (h : mr_h) (Q : Option Value → mr_h → Prop), mr_wp 109 100 [v0, v1, v2, v3, v4, v5, v6, v7, v8] [.int a1, .int a0] h Q = mr_run 92 [.int a0, .int a1] h (fun v h' => mr_wp 109 103 [v0, v1, v2, v3, v4, v5, v6, v7, v8] (v.toList ++ []) h' Q)) ∧
    (∀ (v0 v1 v3 v4 v5 v6 v7 v8 : Value) (w2 : Int32) (x : Int32) (st : List Value) (h : mr_h) (Q : Option Value → mr_h → Prop), mr_wp 109 103 [v0, v1, .int w2, v3, v4, v5, v6, v7, v8] (.int x :: st) h Q = mr_wp 109 104 [v0, v1, .int w2, .int x, v4, v5, v6, v7, v8] st h Q) ∧
    (∀ (v0 v1 v2 v3 v4 v7 v8 : Value) (x : Int32) (w5 : Int32) (st : List Value) (h : mr_h) (Q : Option Value → mr_h → Prop), mr_wp 109 104 [v0, v1, v2, v3, v4, .int w5, .int x, v7, v8] st h Q = mr_wp 109 107 [v0, v1, v2, v3, v4, .int w5, .int (x + (1)), v7, v8] st h Q) ∧
    (∀ (v0 v1 v2 v3 v4 v5 v6 v7 v8 : Value) (st : List Value) (h : mr_h) (Q : Option Value → mr_h → Prop), mr_wp 109 107 [v0, v1, v2, v3, v4, v5, v6, v7, v8] st h Q = mr_wp 109 36 [v0, v1, v2, v3, v4, v5, v6, v7, v8] st h Q) ∧
    (∀ (v0 v1 v2 v3 v6 v7 v8 : Value) (x : Int32) (w4 : Int32) (st : List Value) (h : mr_h) (Q : Option Value → mr_h → Prop), mr_wp 109 110 [v0, v1, v2, v3, .int w4, .int x, v6, v7, v8] st h Q = mr_wp 109 113 [v0, v1, v2, v3, .int w4, .int (x + (1)), v6, v7, v8] st h Q) ∧
    (∀ (v0 v1 v2 v3 v4 v5 v6 v7 v8 : Value) (st : List Value) (h : mr_h) (Q : Option Value → mr_h → Prop), mr_wp 109 113 [v0, v1, v2, v3, v4, v5, v6, v7, v8] st h Q = mr_wp 109 24 [v0, v1, v2, v3, v4, v5, v6, v7, v8] st h Q) ∧
    (∀ (v0 v1 v2 v4 v5 v6 v7 v8 : Value) (x : Int32) (st : List Value) (h : mr_h) (Q : Option Value → mr_h → Prop), mr_wp 109 116 [v0, v1, v2, .int x, v4, v5, v6, v7, v8] st h Q = mr_wp 109 117 [v0, v1, v2, .int x, v4, v5, v6, v7, v8] (.int x :: st) h Q) ∧
    (∀ (v0 v1 v2 v3 v4 v5 v6 v7 v8 : Value) (x : Int32) (h : mr_h) (Q : Option Value → mr_h → Prop), mr_wp 109 117 [v0, v1, v2, v3, v4, v5, v6, v7, v8] [.int x] h Q = Q (some (.int x)) h) :=
  ⟨fun v0 v1 v2 v3 v4 v5 v6 v8 w7 x st h Q => gx_one (i := .istore 8) (len := 2) (by decide +kernel) rfl,
   fun v0 v1 v2 v3 v4 v6 v7 v8 x st h Q => gx_one (i := .iload 5) (len := 2) (by decide +kernel) rfl,
   fun v0 v1 v2 v3 v4 v5 v7 v8 x st h Q => gx_one (i := .iload 6) (len := 2) (by decide +kernel) rfl,
   fun v0 v1 v2 v3 v4 v5 v6 v7 v8 x y st h Q => gx_br (i := .if_icmp .eq 22) (len := 3) (c := .eq) (by decide +kernel) rfl rfl,
   fun v0 v1 v2 v3 v4 v5 v6 v7 x st h Q => gx_one (i := .iload 8) (len := 2) (by decide +kernel) rfl,
   fun v0 v1 v2 v3 v5 v6 v7 v8 x st h Q => gx_one (i := .iload 4) (len := 2) (by decide +kernel) rfl,
   fun v0 v1 v2 v3 v4 v5 v6 v7 v8 x y st h Q => gx_br (i := .if_icmp .ge 15) (len := 3) (c := .ge) (by decide +kernel) rfl rfl,
   fun v0 v1 v2 v3 v4 v5 v6 v7 x st h Q => gx_one (i := .iload 8) (len := 2) (by decide +kernel) rfl,
   fun v0 v1 v2 v4 v5 v6 v7 v8 w3 x st h Q => gx_one (i := .istore 4) (len := 2) (by decide +kernel) rfl,
   fun v0 v1 v2 v3 v4 v6 v7 v8 x st h Q => gx_one (i := .iload 5) (len := 2) (by decide +kernel) rfl,
   fun v0 v1 v2 v3 v4 v5 v7 v8 x st h Q => gx_one (i := .iload 6) (len := 2) (by decide +kernel) rfl,
   fun v0 v1 v2 v3 v4 v5 v6 v7 v8 a0 a1 h Q => gx_stat (x := 50) (t := 92) (n := 2) (by decide +kernel) (by decide +kernel) (by decide) (by decide +kernel) rfl (Or.inl (Nat.le_of_ble_eq_true rfl)) (by show _ ≤ mr_mxl 92; rw [show mr_mxl 92 = 2 from by decide +kernel]; exact Nat.le_of_ble_eq_true rfl),
   fun v0 v1 v3 v4 v5 v6 v7 v8 w2 x st h Q => gx_one (i := .istore_n 3) (len := 1) (by decide +kernel) rfl,
   fun v0 v1 v2 v3 v4 v7 v8 x w5 st h Q => gx_one (i := .iinc 6 1) (len := 3) (by decide +kernel) rfl,
   fun v0 v1 v2 v3 v4 v5 v6 v7 v8 st h Q => gx_one (i := .goto (-71)) (len := 3) (by decide +kernel) rfl,
   fun v0 v1 v2 v3 v6 v7 v8 x w4 st h Q => gx_one (i := .iinc 5 1) (len := 3) (by decide +kernel) rfl,
   fun v0 v1 v2 v3 v4 v5 v6 v7 v8 st h Q => gx_one (i := .goto (-89)) (len := 3) (by decide +kernel) rfl,
   fun v0 v1 v2 v4 v5 v6 v7 v8 x st h Q => gx_one (i := .iload_n 3) (len := 1) (by decide +kernel) rfl,
   fun v0 v1 v2 v3 v4 v5 v6 v7 v8 x h Q => gx_ret (i := .ireturn) (len := 1) (by decide +kernel) rfl rfl (by simp only [mr_rt, if_pos]; rw [if_pos (Or.inl (by decide +kernel))])⟩

theorem s_si_fittingSo_6 (v0 v1 v2 v3 v4 : Value) (x : Int32) (st : List Value) (h : mr_h) (Q : Option Value → mr_h → Prop) : mr_wp 110 6 [v0, v1, v2, v3, v4, .int x] st h Q = mr_wp 110 8 [v0, v1, v2, v3, v4, .int x] (.int x :: st) h Q := gx_one (i := .iload 5) (len := 2) (by decide +kernel) rfl
theorem S_si_fittingSo : (∀ (v0 v1 v2 v3 v4 v5 : Value) (st : List Value) (h : mr_h) (Q : Option Value → mr_h → Prop), mr_wp 110 0 [v0, v1, v2, v3, v4, v5] st h Q = mr_wp 110 1 [v0, v1, v2, v3, v4, v5] (.int (0) :: st) h Q) ∧
    (∀ (v0 v1 v2 v4 v5 : Value) (w3 : Int32) (x : Int32) (st : List Value) (h : mr_h) (Q : Option Value → mr_h → Prop), mr_wp 110 1 [v0, v1, v2, .int w3, v4, v5] (.int x :: st) h Q = mr_wp 110 3 [v0, v1, v2, .int w3, .int x, v5] st h Q) ∧
    (∀ (v0 v1 v2 v3 v4 v5 : Value) (st : List Value) (h : mr_h) (Q : Option Value → mr_h → Prop), mr_wp 110 3 [v0, v1, v2, v3, v4, v5] st h Q = mr_wp 110 4 [v0, v1, v2, v3, v4, v5] (.int (0) :: st) h Q) ∧
    (∀ (v0 v1 v2 v3 v5 : Value) (w4 : Int32) (x : Int32) (st : List Value) (h : mr_h) (Q : Option Value → mr_h → Prop), mr_wp 110 4 [v0, v1, v2, v3, .int w4, v5] (.int x :: st) h Q = mr_wp 110 6 [v0, v1, v2, v3, .int w4, .int x] st h Q) ∧
    (∀ (v1 v2 v3 v4 v5 : Value) (x : Nat) (st : List Value) (h : mr_h) (Q : Option Value → mr_h → Prop), mr_wp 110 8 [.ref x, v1, v2, v3, v4, v5] st h Q = mr_wp 110 9 [.ref x, v1, v2, v3, v4, v5] (.ref x :: st) h Q) ∧
    (∀ (v0 v1 v2 v3 v4 v5 : Value) (a : Nat) (st : List Value) (h : mr_h) (Q : Option Value → mr_h → Prop), mr_wp 110 9 [v0, v1, v2, v3, v4, v5] (.ref a :: st) h Q = mr_gf (h.1 a) 8 5 (fun v => mr_wp 110 12 [v0, v1, v2, v3, v4, v5] (v :: st) h Q)) ∧
    (∀ (v0 v1 v2 v3 v4 v5 : Value) (x : Int32) (y : Int32) (st : List Value) (h : mr_h) (Q : Option Value → mr_h → Prop), mr_wp 110 12 [v0, v1, v2, v3, v4, v5] (.int y :: .int x :: st) h Q = if y ≤ x then mr_wp 110 45 [v0, v1, v2, v3, v4, v5] st h Q else mr_wp 110 15 [v0, v1, v2, v3, v4, v5] st h Q) ∧
    (∀ (v0 v1 v2 v3 v5 : Value) (x : Int32) (st : List Value) (h : mr_h) (Q : Option Value → mr_h → Prop), mr_wp 110 15 [v0, v1, v2, v3, .int x, v5] st h Q = mr_wp 110 17 [v0, v1, v2, v3, .int x, v5] (.int x :: st) h Q) ∧
    (∀ (v1 v2 v3 v4 v5 : Value) (x : Nat) (st : List Value) (h : mr_h) (Q : Option Value → mr_h → Prop), mr_wp 110 17 [.ref x, v1, v2, v3, v4, v5] st h Q = mr_wp 110 18 [.ref x, v1, v2, v3, v4, v5] (.ref x :: st) h Q) ∧
    (∀ (v0 v1 v2 v3 v4 v5 : Value) (a : Nat) (st : List Value) (h : mr_h) (Q : Option Value → mr_h → Prop), mr_wp 110 18 [v0, v1, v2, v3, v4, v5] (.ref a :: st) h Q = mr_gf (h.1 a) 8 4 (fun v => mr_wp 110 21 [v0, v1, v2, v3, v4, v5] (v :: st) h Q)) ∧
    (∀ (v0 v1 v2 v3 v4 : Value) (x : Int32) (st : List Value) (h : mr_h) (Q : Option Value → mr_h → Prop), mr_wp 110 21 [v0, v1, v2, v3, v4, .int x] st h Q = mr_wp 110 23 [v0, v1, v2, v3, v4, .int x] (.int x :: st) h Q) ∧
    (∀ (v0 v1 v2 v3 v4 v5 : Value) (a : Nat) (x : Int32) (st : List Value) (h : mr_h) (Q : Option Value → mr_h → Prop), mr_wp 110 23 [v0, v1, v2, v3, v4, v5] (.int x :: .ref a :: st) h Q = mr_ai (h.1 a) x (fun v => mr_wp 110 24 [v0, v1, v2, v3, v4, v5] (.int v :: st) h Q)) ∧
    (∀ (v0 v2 v3 v4 v5 : Value) (x : Nat) (st : List Value) (h : mr_h) (Q : Option Value → mr_h → Prop), mr_wp 110 24 [v0, .ref x, v2, v3, v4, v5] st h Q = mr_wp 110 25 [v0, .ref x, v2, v3, v4, v5] (.ref x :: st) h Q) ∧
    (∀ (v0 v1 v2 v3 v4 : Value) (x : Int32) (st : List Value) (h : mr_h) (Q : Option Value → mr_h → Prop), mr_wp 110 25 [v0, v1, v2, v3, v4, .int x] st h Q = mr_wp 110 27 [v0, v1, v2, v3, v4, .int x] (.int x :: st) h Q) ∧
    (∀ (v0 v1 v3 v4 v5 : Value) (x : Int32) (st : List Value) (h : mr_h) (Q : Option Value → mr_h → Prop), mr_wp 110 27 [v0, v1, .int x, v3, v4, v5] st h Q = mr_wp 110 28 [v0, v1, .int x, v3, v4, v5] (.int x :: st) h Q) ∧
    (∀ (v0 v1 v2 v4 v5 : Value) (x : Int32) (st : List Value) (h : mr_h) (Q : Option Value → mr_h → Prop), mr_wp 110 28 [v0, v1, v2, .int x, v4, v5] st h Q = mr_wp 110 29 [v0, v1, v2, .int x, v4, v5] (.int x :: st) h Q) ∧
    (∀ (v0 v1 v2 v3 v4 v5 : Value) (a0 : Nat) (a1 : Int32) (a2 : Int32) (a3 : Int32) (r0 : Value) (r1 : Value) (h : mr_h) (Q : Option Value → mr_h → Prop), mr_wp 110 29 [v0, v1, v2, v3, v4, v5] [.int a3, .int a2, .int a1, .ref a0, r0, r1] h Q = mr_run 105 [.ref a0, .int a1, .int a2, .int a3] h (fun v h' => mr_wp 110 32 [v0, v1, v2, v3, v4, v5] (v.toList ++ [r0, r1]) h' Q)) ∧
    (∀ (v0 v1 v2 v3 v4 v5 : Value) (x : Int32) (y : Int32) (st : List Value) (h : mr_h) (Q : Option Value → mr_h → Prop), mr_wp 110 32 [v0, v1, v2, v3, v4, v5] (.int y :: .int x :: st) h Q = mr_wp 110 33 [v0, v1, v2, v3, v4, v5] (.int (x &&& y) :: st) h Q) ∧
    (∀ (v0 v1 v2 v3 v4 v5 : Value) (a0 : Int32) (r0 : Value) (h : mr_h) (Q : Option Value → mr_h → Prop), mr_wp 110 33 [v0, v1, v2, v3, v4, v5] [.int a0, r0] h Q = mr_run 50 [.int a0] h (fun v h' => mr_wp 110 36 [v0, v1, v2, v3, v4, v5] (v.toList ++ [r0]) h' Q)) ∧
    (∀ (v0 v1 v2 v3 v4 v5 : Value) (x : Int32) (y : Int32) (st : List Value) (h : mr_h) (Q : Option Value → mr_h → Prop), mr_wp 110 36 [v0, v1, v2, v3, v4, v5] (.int y :: .int x :: st) h Q = mr_wp 110 37 [v0, v1, v2, v3, v4, v5] (.int (x + y) :: st) h Q) ∧
    (∀ (v0 v1 v2 v4 v5 : Value) (w3 : Int32) (x : Int32) (st : List Value) (h : mr_h) (Q : Option Value → mr_h → Prop), mr_wp 110 37 [v0, v1, v2, .int w3, v4, v5] (.int x :: st) h Q = mr_wp 110 39 [v0, v1, v2, .int w3, .int x, v5] st h Q) ∧
    (∀ (v0 v1 v2 v3 : Value) (x : Int32) (w4 : Int32) (st : List Value) (h : mr_h) (Q : Option Value → mr_h → Prop), mr_wp 110 39 [v0, v1, v2, v3, .int w4, .int x] st h Q = mr_wp 110 42 [v0, v1, v2, v3, .int w4, .int (x + (1))] st h Q) ∧
    (∀ (v0 v1 v2 v3 v4 v5 : Value) (st : List Value) (h : mr_h) (Q : Option Value → mr_h → Prop), mr_wp 110 42 [v0, v1, v2, v3, v4, v5] st h Q = mr_wp 110 6 [v0, v1, v2, v3, v4, v5] st h Q) ∧
    (∀ (v0 v1 v2 v3 v5 : Value) (x : Int32) (st : List Value) (h : mr_h) (Q : Option Value → mr_h → Prop), mr_wp 110 45 [v0, v1, v2, v3, .int x, v5] st h Q = mr_wp 110 47 [v0, v1, v2, v3, .int x, v5] (.int x :: st) h Q) ∧
    (∀ (v0 v1 v2 v3 v4 v5 : Value) (x : Int32) (h : mr_h) (Q : Option Value → mr_h → Prop), mr_wp 110 47 [v0, v1, v2, v3, v4, v5] [.int x] h Q = Q (some (.int x)) h) :=
  ⟨fun v0 v1 v2 v3 v4 v5 st h Q => gx_one (i := .iconst 0) (len := 1) (by decide +kernel) rfl,
   fun v0 v1 v2 v4 v5 w3 x st h Q => gx_one (i := .istore 4) (len := 2) (by decide +kernel) rfl,
   fun v0 v1 v2 v3 v4 v5 st h Q => gx_one (i := .iconst 0) (len := 1) (by decide +kernel) rfl,
   fun v0 v1 v2 v3 v5 w4 x st h Q => gx_one (i := .istore 5) (len := 2) (by decide +kernel) rfl,
   fun v1 v2 v3 v4 v5 x st h Q => gx_one (i := .aload_n 0) (len := 1) (by decide +kernel) rfl,
   fun v0 v1 v2 v3 v4 v5 a st h Q => gx_get (x := 28) (by decide +kernel) (by decide +kernel),
   fun v0 v1 v2 v3 v4 v5 x y st h Q => gx_br (i := .if_icmp .ge 33) (len := 3) (c := .ge) (by decide +kernel) rfl rfl,
   fun v0 v1 v2 v3 v5 x st h Q => gx_one (i := .iload 4) (len := 2) (by decide +kernel) rfl,
   fun v1 v2 v3 v4 v5 x st h Q => gx_one (i := .aload_n 0) (len := 1) (by decide +kernel) rfl,
   fun v0 v1 v2 v3 v4 v5 a st h Q => gx_get (x := 25) (by decide +kernel) (by decide +kernel),
   fun v0 v1 v2 v3 v4 x st h Q => gx_one (i := .iload 5) (len := 2) (by decide +kernel) rfl,
   fun v0 v1 v2 v3 v4 v5 a x st h Q => gx_iald (by decide +kernel),
   fun v0 v2 v3 v4 v5 x st h Q => gx_one (i := .aload_n 1) (len := 1) (by decide +kernel) rfl,
   fun v0 v1 v2 v3 v4 x st h Q => gx_one (i := .iload 5) (len := 2) (by decide +kernel) rfl,
   fun v0 v1 v3 v4 v5 x st h Q => gx_one (i := .iload_n 2) (len := 1) (by decide +kernel) rfl,
   fun v0 v1 v2 v4 v5 x st h Q => gx_one (i := .iload_n 3) (len := 1) (by decide +kernel) rfl,
   fun v0 v1 v2 v3 v4 v5 a0 a1 a2 a3 r0 r1 h Q => gx_stat (x := 38) (t := 105) (n := 4) (by decide +kernel) (by decide +kernel) (by decide) (by decide +kernel) rfl (Or.inl (Nat.le_of_ble_eq_true rfl)) (by show _ ≤ mr_mxl 105; rw [show mr_mxl 105 = 4 from by decide +kernel]; exact Nat.le_of_ble_eq_true rfl),
   fun v0 v1 v2 v3 v4 v5 x y st h Q => gx_one (i := .iand) (len := 1) (by decide +kernel) rfl,
   fun v0 v1 v2 v3 v4 v5 a0 r0 h Q => gx_stat (x := 42) (t := 50) (n := 1) (by decide +kernel) (by decide +kernel) (by decide) (by decide +kernel) rfl (Or.inl (Nat.le_of_ble_eq_true rfl)) (by show _ ≤ mr_mxl 50; rw [show mr_mxl 50 = 1 from by decide +kernel]; exact Nat.le_of_ble_eq_true rfl),
   fun v0 v1 v2 v3 v4 v5 x y st h Q => gx_one (i := .iadd) (len := 1) (by decide +kernel) rfl,
   fun v0 v1 v2 v4 v5 w3 x st h Q => gx_one (i := .istore 4) (len := 2) (by decide +kernel) rfl,
   fun v0 v1 v2 v3 x w4 st h Q => gx_one (i := .iinc 5 1) (len := 3) (by decide +kernel) rfl,
   fun v0 v1 v2 v3 v4 v5 st h Q => gx_one (i := .goto (-36)) (len := 3) (by decide +kernel) rfl,
   fun v0 v1 v2 v3 v5 x st h Q => gx_one (i := .iload 4) (len := 2) (by decide +kernel) rfl,
   fun v0 v1 v2 v3 v4 v5 x h Q => gx_ret (i := .ireturn) (len := 1) (by decide +kernel) rfl rfl (by simp only [mr_rt, if_pos]; rw [if_pos (Or.inl (by decide +kernel))])⟩
theorem S_rl_keep : (∀ (v0 : Value) (x : Int32) (st : List Value) (h : mr_h) (Q : Option Value → mr_h → Prop), mr_wp 111 0 [v0, .int x] st h Q = mr_wp 111 1 [v0, .int x] (.int x :: st) h Q) ∧
    (∀ (v0 v1 : Value) (x : Int32) (st : List Value) (h : mr_h) (Q : Option Value → mr_h → Prop), mr_wp 111 1 [v0, v1] (.int x :: st) h Q = if x < 0 then mr_wp 111 9 [v0, v1] st h Q else mr_wp 111 4 [v0, v1] st h Q) ∧
    (∀ (v0 : Value) (x : Int32) (st : List Value) (h : mr_h) (Q : Option Value → mr_h → Prop), mr_wp 111 4 [v0, .int x] st h Q = mr_wp 111 5 [v0, .int x] (.int x :: st) h Q) ∧
    (∀ (v0 v1 : Value) (st : List Value) (h : mr_h) (Q : Option Value → mr_h → Prop), mr_wp 111 5 [v0, v1] st h Q = mr_wp 111 6 [v0, v1] (.int (2) :: st) h Q) ∧
    (∀ (v0 v1 : Value) (x : Int32) (y : Int32) (st : List Value) (h : mr_h) (Q : Option Value → mr_h → Prop), mr_wp 111 6 [v0, v1] (.int y :: .int x :: st) h Q = if x < y then mr_wp 111 11 [v0, v1] st h Q else mr_wp 111 9 [v0, v1] st h Q) ∧
    (∀ (v0 v1 : Value) (st : List Value) (h : mr_h) (Q : Option Value → mr_h → Prop), mr_wp 111 9 [v0, v1] st h Q = mr_wp 111 10 [v0, v1] (.int (-1) :: st) h Q) ∧
    (∀ (v0 v1 : Value) (x : Int32) (h : mr_h) (Q : Option Value → mr_h → Prop), mr_wp 111 10 [v0, v1] [.int x] h Q = Q (some (.int x)) h) ∧
    (∀ (v1 : Value) (x : Nat) (st : List Value) (h : mr_h) (Q : Option Value → mr_h → Prop), mr_wp 111 11 [.ref x, v1] st h Q = mr_wp 111 12 [.ref x, v1] (.ref x :: st) h Q) ∧
    (∀ (v0 v1 : Value) (a : Nat) (st : List Value) (h : mr_h) (Q : Option Value → mr_h → Prop), mr_wp 111 12 [v0, v1] (.ref a :: st) h Q = mr_gf (h.1 a) 10 10 (fun v => mr_wp 111 15 [v0, v1] (v :: st) h Q)) ∧
    (∀ (v0 : Value) (x : Int32) (st : List Value) (h : mr_h) (Q : Option Value → mr_h → Prop), mr_wp 111 15 [v0, .int x] st h Q = mr_wp 111 16 [v0, .int x] (.int x :: st) h Q) ∧
    (∀ (v1 : Value) (x : Nat) (st : List Value) (h : mr_h) (Q : Option Value → mr_h → Prop), mr_wp 111 16 [.ref x, v1] st h Q = mr_wp 111 17 [.ref x, v1] (.ref x :: st) h Q) ∧
    (∀ (v0 v1 : Value) (a : Nat) (st : List Value) (h : mr_h) (Q : Option Value → mr_h → Prop), mr_wp 111 17 [v0, v1] (.ref a :: st) h Q = mr_gf (h.1 a) 10 0 (fun v => mr_wp 111 20 [v0, v1] (v :: st) h Q)) ∧
    (∀ (v0 v1 : Value) (a0 : Int32) (a1 : Nat) (o : Nat) (h : mr_h) (Q : Option Value → mr_h → Prop), mr_wp 111 20 [v0, v1] [.ref a1, .int a0, .ref o] h Q = mr_rc (h.1 o) 0 (mr_run 112 [.ref o, .int a0, .ref a1] h (fun v h' => mr_wp 111 23 [v0, v1] (v.toList ++ []) h' Q))) ∧
    (∀ (v1 : Value) (x : Nat) (st : List Value) (h : mr_h) (Q : Option Value → mr_h → Prop), mr_wp 111 23 [.ref x, v1] st h Q = mr_wp 111 24 [.ref x, v1] (.ref x :: st) h Q) ∧
    (∀ (v0 v1 : Value) (a : Nat) (st : List Value) (h : mr_h) (Q : Option Value → mr_h → Prop), mr_wp 111 24 [v0, v1] (.ref a :: st) h Q = mr_gf (h.1 a) 10 0 (fun v => mr_wp 111 27 [v0, v1] (v :: st) h Q)) ∧
    (∀ (v0 v1 : Value) (o : Nat) (h : mr_h) (Q : Option Value → mr_h → Prop), mr_wp 111 27 [v0, v1] [.ref o] h Q = mr_rc (h.1 o) 3 (mr_run 49 [.ref o] h (fun v h' => mr_wp 111 30 [v0, v1] (v.toList ++ []) h' Q))) ∧
    (∀ (v0 v1 : Value) (x : Int32) (h : mr_h) (Q : Option Value → mr_h → Prop), mr_wp 111 30 [v0, v1] [.int x] h Q = Q (some (.int x)) h) :=
  ⟨fun v0 x st h Q => gx_one (i := .iload_n 1) (len := 1) (by decide +kernel) rfl,
   fun v0 v1 x st h Q => gx_br (i := .ifCond .lt 8) (len := 3) (c := .lt) (by decide +kernel) rfl rfl,
   fun v0 x st h Q => gx_one (i := .iload_n 1) (len := 1) (by decide +kernel) rfl,
   fun v0 v1 st h Q => gx_one (i := .iconst 2) (len := 1) (by decide +kernel) rfl,
   fun v0 v1 x y st h Q => gx_br (i := .if_icmp .lt 5) (len := 3) (c := .lt) (by decide +kernel) rfl rfl,
   fun v0 v1 st h Q => gx_one (i := .iconst (-1)) (len := 1) (by decide +kernel) rfl,
   fun v0 v1 x h Q => gx_ret (i := .ireturn) (len := 1) (by decide +kernel) rfl rfl (by simp only [mr_rt, if_pos]; rw [if_pos (Or.inl (by decide +kernel))]),
   fun v1 x st h Q => gx_one (i := .aload_n 0) (len := 1) (by decide +kernel) rfl,
   fun v0 v1 a st h Q => gx_get (x := 78) (by decide +kernel) (by decide +kernel),
   fun v0 x st h Q => gx_one (i := .iload_n 1) (len := 1) (by decide +kernel) rfl,
   fun v1 x st h Q => gx_one (i := .aload_n 0) (len := 1) (by decide +kernel) rfl,
   fun v0 v1 a st h Q => gx_get (x := 10) (by decide +kernel) (by decide +kernel),
   fun v0 v1 a0 a1 o h Q => gx_virt (x := 245) (n := 2) (by decide +kernel) (by decide +kernel) rfl (Or.inl (Nat.le_of_ble_eq_true rfl)) (by show _ ≤ mr_mxl 112; rw [show mr_mxl 112 = 3 from by decide +kernel]; exact Nat.le_of_ble_eq_true rfl) (by decide +kernel),
   fun v1 x st h Q => gx_one (i := .aload_n 0) (len := 1) (by decide +kernel) rfl,
   fun v0 v1 a st h Q => gx_get (x := 10) (by decide +kernel) (by decide +kernel),
   fun v0 v1 o h Q => gx_virt (x := 141) (n := 0) (by decide +kernel) (by decide +kernel) rfl (Or.inl (Nat.le_of_ble_eq_true rfl)) (by show _ ≤ mr_mxl 49; rw [show mr_mxl 49 = 3 from by decide +kernel]; exact Nat.le_of_ble_eq_true rfl) (by decide +kernel),
   fun v0 v1 x h Q => gx_ret (i := .ireturn) (len := 1) (by decide +kernel) rfl rfl (by simp only [mr_rt, if_pos]; rw [if_pos (Or.inl (by decide +kernel))])⟩
theorem S_al_take : (∀ (v1 v2 : Value) (x : Nat) (st : List Value) (h : mr_h) (Q : Option Value → mr_h → Prop), mr_wp 112 0 [.ref x, v1, v2] st h Q = mr_wp 112 1 [.ref x, v1, v2] (.ref x :: st) h Q) ∧
    (∀ (v0 v1 v2 : Value) (a : Nat) (st : List Value) (h : mr_h) (Q : Option Value → mr_h → Prop), mr_wp 112 1 [v0, v1, v2] (.ref a :: st) h Q = mr_gf (h.1 a) 0 0 (fun v => mr_wp 112 4 [v0, v1, v2] (v :: st) h Q)) ∧
    (∀ (v0 v2 : Value) (x : Int32) (st : List Value) (h : mr_h) (Q : Option Value → mr_h → Prop), mr_wp 112 4 [v0, .int x, v2] st h Q = mr_wp 112 5 [v0, .int x, v2] (.int x :: st) h Q) ∧
    (∀ (v0 v1 v2 : Value) (a : Nat) (x : Int32) (st : List Value) (h : mr_h) (Q : Option Value → mr_h → Prop), mr_wp 112 5 [v0, v1, v2] (.int x :: .ref a :: st) h Q = mr_aq (h.1 a) x (fun v => mr_wp 112 6 [v0, v1, v2] (.ref v :: st) h Q)) ∧
    (∀ (v0 v1 : Value) (x : Nat) (st : List Value) (h : mr_h) (Q : Option Value → mr_h → Prop), mr_wp 112 6 [v0, v1, .ref x] st h Q = mr_wp 112 7 [v0, v1, .ref x] (.ref x :: st) h Q) ∧
    (∀ (v0 v1 v2 : Value) (a0 : Nat) (o : Nat) (h : mr_h) (Q : Option Value → mr_h → Prop), mr_wp 112 7 [v0, v1, v2] [.ref a0, .ref o] h Q = mr_rc (h.1 o) 3 (mr_run 41 [.ref o, .ref a0] h (fun v h' => mr_wp 112 10 [v0, v1, v2] (v.toList ++ []) h' Q))) ∧
    (∀ (v1 v2 : Value) (x : Nat) (st : List Value) (h : mr_h) (Q : Option Value → mr_h → Prop), mr_wp 112 10 [.ref x, v1, v2] st h Q = mr_wp 112 11 [.ref x, v1, v2] (.ref x :: st) h Q) ∧
    (∀ (v0 v1 v2 : Value) (a : Nat) (st : List Value) (h : mr_h) (Q : Option Value → mr_h → Prop), mr_wp 112 11 [v0, v1, v2] (.ref a :: st) h Q = mr_gf (h.1 a) 0 1 (fun v => mr_wp 112 14 [v0, v1, v2] (v :: st) h Q)) ∧
    (∀ (v0 v2 : Value) (x : Int32) (st : List Value) (h : mr_h) (Q : Option Value → mr_h → Prop), mr_wp 112 14 [v0, .int x, v2] st h Q = mr_wp 112 15 [v0, .int x, v2] (.int x :: st) h Q) ∧
    (∀ (v0 v1 v2 : Value) (st : List Value) (h : mr_h) (Q : Option Value → mr_h → Prop), mr_wp 112 15 [v0, v1, v2] st h Q = mr_wp 112 16 [v0, v1, v2] (.int (1) :: st) h Q) ∧
    (∀ (v0 v1 v2 : Value) (a : Nat) (x : Int32) (y : Int32) (st : List Value) (h : mr_h) (Q : Option Value → mr_h → Prop), mr_wp 112 16 [v0, v1, v2] (.int y :: .int x :: .ref a :: st) h Q = mr_sz (h.1 a) x y (fun c => mr_wp 112 17 [v0, v1, v2] st (mr_up h a c) Q)) ∧
    (∀ (v0 v1 v2 : Value) (h : mr_h) (Q : Option Value → mr_h → Prop), mr_wp 112 17 [v0, v1, v2] [] h Q = Q none h) :=
  ⟨fun v1 v2 x st h Q => gx_one (i := .aload_n 0) (len := 1) (by decide +kernel) rfl,
   fun v0 v1 v2 a st h Q => gx_get (x := 11) (by decide +kernel) (by decide +kernel),
   fun v0 v2 x st h Q => gx_one (i := .iload_n 1) (len := 1) (by decide +kernel) rfl,
   fun v0 v1 v2 a x st h Q => gx_qald (by decide +kernel),
   fun v0 v1 x st h Q => gx_one (i := .aload_n 2) (len := 1) (by decide +kernel) rfl,
   fun v0 v1 v2 a0 o h Q => gx_virt (x := 22) (n := 1) (by decide +kernel) (by decide +kernel) rfl (Or.inl (Nat.le_of_ble_eq_true rfl)) (by show _ ≤ mr_mxl 41; rw [show mr_mxl 41 = 2 from by decide +kernel]; exact Nat.le_of_ble_eq_true rfl) (by decide +kernel),
   fun v1 v2 x st h Q => gx_one (i := .aload_n 0) (len := 1) (by decide +kernel) rfl,
   fun v0 v1 v2 a st h Q => gx_get (x := 17) (by decide +kernel) (by decide +kernel),
   fun v0 v2 x st h Q => gx_one (i := .iload_n 1) (len := 1) (by decide +kernel) rfl,
   fun v0 v1 v2 st h Q => gx_one (i := .iconst 1) (len := 1) (by decide +kernel) rfl,
   fun v0 v1 v2 a x y st h Q => gx_zast (by decide +kernel),
   fun v0 v1 v2 h Q => gx_ret (i := .return_) (len := 1) (by decide +kernel) rfl rfl (by simp only [mr_rt, if_pos]; rw [if_pos (by decide +kernel)])⟩
theorem S_rl_back : (∀ (v0 : Value) (x : Int32) (st : List Value) (h : mr_h) (Q : Option Value → mr_h → Prop), mr_wp 113 0 [v0, .int x] st h Q = mr_wp 113 1 [v0, .int x] (.int x :: st) h Q) ∧
    (∀ (v0 v1 : Value) (x : Int32) (st : List Value) (h : mr_h) (Q : Option Value → mr_h → Prop), mr_wp 113 1 [v0, v1] (.int x :: st) h Q = if x < 0 then mr_wp 113 9 [v0, v1] st h Q else mr_wp 113 4 [v0, v1] st h Q) ∧
    (∀ (v0 : Value) (x : Int32) (st : List Value) (h : mr_h) (Q : Option Value → mr_h → Prop), mr_wp 113 4 [v0, .int x] st h Q = mr_wp 113 5 [v0, .int x] (.int x :: st) h Q) ∧
    (∀ (v0 v1 : Value) (st : List Value) (h : mr_h) (Q : Option Value → mr_h → Prop), mr_wp 113 5 [v0, v1] st h Q = mr_wp 113 6 [v0, v1] (.int (2) :: st) h Q) ∧
    (∀ (v0 v1 : Value) (x : Int32) (y : Int32) (st : List Value) (h : mr_h) (Q : Option Value → mr_h → Prop), mr_wp 113 6 [v0, v1] (.int y :: .int x :: st) h Q = if x < y then mr_wp 113 11 [v0, v1] st h Q else mr_wp 113 9 [v0, v1] st h Q) ∧
    (∀ (v0 v1 : Value) (st : List Value) (h : mr_h) (Q : Option Value → mr_h → Prop), mr_wp 113 9 [v0, v1] st h Q = mr_wp 113 10 [v0, v1] (.int (-1) :: st) h Q) ∧
    (∀ (v0 v1 : Value) (x : Int32) (h : mr_h) (Q : Option Value → mr_h → Prop), mr_wp 113 10 [v0, v1] [.int x] h Q = Q (some (.int x)) h) ∧
    (∀ (v1 : Value) (x : Nat) (st : List Value) (h : mr_h) (Q : Option Value → mr_h → Prop), mr_wp 113 11 [.ref x, v1] st h Q = mr_wp 113 12 [.ref x, v1] (.ref x :: st) h Q) ∧
    (∀ (v0 v1 : Value) (a : Nat) (st : List Value) (h : mr_h) (Q : Option Value → mr_h → Prop), mr_wp 113 12 [v0, v1] (.ref a :: st) h Q = mr_gf (h.1 a) 10 10 (fun v => mr_wp 113 15 [v0, v1] (v :: st) h Q)) ∧
    (∀ (v0 : Value) (x : Int32) (st : List Value) (h : mr_h) (Q : Option Value → mr_h → Prop), mr_wp 113 15 [v0, .int x] st h Q = mr_wp 113 16 [v0, .int x] (.int x :: st) h Q) ∧
    (∀ (v1 : Value) (x : Nat) (st : List Value) (h : mr_h) (Q : Option Value → mr_h → Prop), mr_wp 113 16 [.ref x, v1] st h Q = mr_wp 113 17 [.ref x, v1] (.ref x :: st) h Q) ∧
    (∀ (v0 v1 : Value) (a : Nat) (st : List Value) (h : mr_h) (Q : Option Value → mr_h → Prop), mr_wp 113 17 [v0, v1] (.ref a :: st) h Q = mr_gf (h.1 a) 10 0 (fun v => mr_wp 113 20 [v0, v1] (v :: st) h Q)) ∧
    (∀ (v0 v1 : Value) (a0 : Int32) (a1 : Nat) (o : Nat) (h : mr_h) (Q : Option Value → mr_h → Prop), mr_wp 113 20 [v0, v1] [.ref a1, .int a0, .ref o] h Q = mr_rc (h.1 o) 0 (mr_run 114 [.ref o, .int a0, .ref a1] h (fun v h' => mr_wp 113 23 [v0, v1] (v.toList ++ []) h' Q))) ∧
    (∀ (v0 v1 : Value) (x : Int32) (st : List Value) (h : mr_h) (Q : Option Value → mr_h → Prop), mr_wp 113 23 [v0, v1] (.int x :: st) h Q = if ¬ x = 0 then mr_wp 113 29 [v0, v1] st h Q else mr_wp 113 26 [v0, v1] st h Q) ∧
    (∀ (v0 v1 : Value) (st : List Value) (h : mr_h) (Q : Option Value → mr_h → Prop), mr_wp 113 26 [v0, v1] st h Q = mr_wp 113 28 [v0, v1] (.int (-2) :: st) h Q) ∧
    (∀ (v0 v1 : Value) (x : Int32) (h : mr_h) (Q : Option Value → mr_h → Prop), mr_wp 113 28 [v0, v1] [.int x] h Q = Q (some (.int x)) h) ∧
    (∀ (v1 : Value) (x : Nat) (st : List Value) (h : mr_h) (Q : Option Value → mr_h → Prop), mr_wp 113 29 [.ref x, v1] st h Q = mr_wp 113 30 [.ref x, v1] (.ref x :: st) h Q) ∧
    (∀ (v0 v1 : Value) (a : Nat) (st : List Value) (h : mr_h) (Q : Option Value → mr_h → Prop), mr_wp 113 30 [v0, v1] (.ref a :: st) h Q = mr_gf (h.1 a) 10 9 (fun v => mr_wp 113 33 [v0, v1] (v :: st) h Q)) ∧
    (∀ (v0 v1 : Value) (st : List Value) (h : mr_h) (Q : Option Value → mr_h → Prop), mr_wp 113 33 [v0, v1] st h Q = mr_wp 113 34 [v0, v1] (.int (0) :: st) h Q) ∧
    (∀ (v0 v1 : Value) (a : Nat) (x : Int32) (st : List Value) (h : mr_h) (Q : Option Value → mr_h → Prop), mr_wp 113 34 [v0, v1] (.int x :: .ref a :: st) h Q = mr_pf (h.1 a) 4 0 (.int x) (fun c => mr_wp 113 37 [v0, v1] st (mr_up h a c) Q)) ∧
    (∀ (v1 : Value) (x : Nat) (st : List Value) (h : mr_h) (Q : Option Value → mr_h → Prop), mr_wp 113 37 [.ref x, v1] st h Q = mr_wp 113 38 [.ref x, v1] (.ref x :: st) h Q) ∧
    (∀ (v0 v1 : Value) (a : Nat) (st : List Value) (h : mr_h) (Q : Option Value → mr_h → Prop), mr_wp 113 38 [v0, v1] (.ref a :: st) h Q = mr_gf (h.1 a) 10 3 (fun v => mr_wp 113 41 [v0, v1] (v :: st) h Q)) ∧
    (∀ (v1 : Value) (x : Nat) (st : List Value) (h : mr_h) (Q : Option Value → mr_h → Prop), mr_wp 113 41 [.ref x, v1] st h Q = mr_wp 113 42 [.ref x, v1] (.ref x :: st) h Q) ∧
    (∀ (v0 v1 : Value) (a : Nat) (st : List Value) (h : mr_h) (Q : Option Value → mr_h → Prop), mr_wp 113 42 [v0, v1] (.ref a :: st) h Q = mr_gf (h.1 a) 10 0 (fun v => mr_wp 113 45 [v0, v1] (v :: st) h Q)) ∧
    (∀ (v0 v1 : Value) (a0 : Nat) (o : Nat) (h : mr_h) (Q : Option Value → mr_h → Prop), mr_wp 113 45 [v0, v1] [.ref a0, .ref o] h Q = mr_rc (h.1 o) 6 (mr_run 14 [.ref o, .ref a0] h (fun v h' => mr_wp 113 48 [v0, v1] (v.toList ++ []) h' Q))) ∧
    (∀ (v1 : Value) (x : Nat) (st : List Value) (h : mr_h) (Q : Option Value → mr_h → Prop), mr_wp 113 48 [.ref x, v1] st h Q = mr_wp 113 49 [.ref x, v1] (.ref x :: st) h Q) ∧
    (∀ (v0 v1 : Value) (a : Nat) (st : List Value) (h : mr_h) (Q : Option Value → mr_h → Prop), mr_wp 113 49 [v0, v1] (.ref a :: st) h Q = mr_gf (h.1 a) 10 0 (fun v => mr_wp 113 52 [v0, v1] (v :: st) h Q)) ∧
    (∀ (v0 v1 : Value) (o : Nat) (h : mr_h) (Q : Option Value → mr_h → Prop), mr_wp 113 52 [v0, v1] [.ref o] h Q = mr_rc (h.1 o) 3 (mr_run 49 [.ref o] h (fun v h' => mr_wp 113 55 [v0, v1] (v.toList ++ []) h' Q))) ∧
    (∀ (v0 v1 : Value) (x : Int32) (h : mr_h) (Q : Option Value → mr_h → Prop), mr_wp 113 55 [v0, v1] [.int x] h Q = Q (some (.int x)) h) :=
  ⟨fun v0 x st h Q => gx_one (i := .iload_n 1) (len := 1) (by decide +kernel) rfl,
   fun v0 v1 x st h Q => gx_br (i := .ifCond .lt 8) (len := 3) (c := .lt) (by decide +kernel) rfl rfl,
   fun v0 x st h Q => gx_one (i := .iload_n 1) (len := 1) (by decide +kernel) rfl,
   fun v0 v1 st h Q => gx_one (i := .iconst 2) (len := 1) (by decide +kernel) rfl,
   fun v0 v1 x y st h Q => gx_br (i := .if_icmp .lt 5) (len := 3) (c := .lt) (by decide +kernel) rfl rfl,
   fun v0 v1 st h Q => gx_one (i := .iconst (-1)) (len := 1) (by decide +kernel) rfl,
   fun v0 v1 x h Q => gx_ret (i := .ireturn) (len := 1) (by decide +kernel) rfl rfl (by simp only [mr_rt, if_pos]; rw [if_pos (Or.inl (by decide +kernel))]),
   fun v1 x st h Q => gx_one (i := .aload_n 0) (len := 1) (by decide +kernel) rfl,
   fun v0 v1 a st h Q => gx_get (x := 78) (by decide +kernel) (by decide +kernel),
   fun v0 x st h Q => gx_one (i := .iload_n 1) (len := 1) (by decide +kernel) rfl,
   fun v1 x st h Q => gx_one (i := .aload_n 0) (len := 1) (by decide +kernel) rfl,
   fun v0 v1 a st h Q => gx_get (x := 10) (by decide +kernel) (by decide +kernel),
   fun v0 v1 a0 a1 o h Q => gx_virt (x := 249) (n := 2) (by decide +kernel) (by decide +kernel) rfl (Or.inl (Nat.le_of_ble_eq_true rfl)) (by show _ ≤ mr_mxl 114; rw [show mr_mxl 114 = 3 from by decide +kernel]; exact Nat.le_of_ble_eq_true rfl) (by decide +kernel),
   fun v0 v1 x st h Q => gx_br (i := .ifCond .ne 6) (len := 3) (c := .ne) (by decide +kernel) rfl rfl,
   fun v0 v1 st h Q => gx_one (i := .bipush (-2)) (len := 2) (by decide +kernel) rfl,
   fun v0 v1 x h Q => gx_ret (i := .ireturn) (len := 1) (by decide +kernel) rfl rfl (by simp only [mr_rt, if_pos]; rw [if_pos (Or.inl (by decide +kernel))]),
   fun v1 x st h Q => gx_one (i := .aload_n 0) (len := 1) (by decide +kernel) rfl,
   fun v0 v1 a st h Q => gx_get (x := 71) (by decide +kernel) (by decide +kernel),
   fun v0 v1 st h Q => gx_one (i := .iconst 0) (len := 1) (by decide +kernel) rfl,
   fun v0 v1 a x st h Q => gx_put (x := 104) (by decide +kernel) (by decide +kernel) ⟨rfl, Or.inl rfl⟩,
   fun v1 x st h Q => gx_one (i := .aload_n 0) (len := 1) (by decide +kernel) rfl,
   fun v0 v1 a st h Q => gx_get (x := 29) (by decide +kernel) (by decide +kernel),
   fun v1 x st h Q => gx_one (i := .aload_n 0) (len := 1) (by decide +kernel) rfl,
   fun v0 v1 a st h Q => gx_get (x := 10) (by decide +kernel) (by decide +kernel),
   fun v0 v1 a0 o h Q => gx_virt (x := 82) (n := 1) (by decide +kernel) (by decide +kernel) rfl (Or.inl (Nat.le_of_ble_eq_true rfl)) (by show _ ≤ mr_mxl 14; rw [show mr_mxl 14 = 2 from by decide +kernel]; exact Nat.le_of_ble_eq_true rfl) (by decide +kernel),
   fun v1 x st h Q => gx_one (i := .aload_n 0) (len := 1) (by decide +kernel) rfl,
   fun v0 v1 a st h Q => gx_get (x := 10) (by decide +kernel) (by decide +kernel),
   fun v0 v1 o h Q => gx_virt (x := 141) (n := 0) (by decide +kernel) (by decide +kernel) rfl (Or.inl (Nat.le_of_ble_eq_true rfl)) (by show _ ≤ mr_mxl 49; rw [show mr_mxl 49 = 3 from by decide +kernel]; exact Nat.le_of_ble_eq_true rfl) (by decide +kernel),
   fun v0 v1 x h Q => gx_ret (i := .ireturn) (len := 1) (by decide +kernel) rfl rfl (by simp only [mr_rt, if_pos]; rw [if_pos (Or.inl (by decide +kernel))])⟩
theorem S_al_show : (∀ (v1 v2 : Value) (x : Nat) (st : List Value) (h : mr_h) (Q : Option Value → mr_h → Prop), mr_wp 114 0 [.ref x, v1, v2] st h Q = mr_wp 114 1 [.ref x, v1, v2] (.ref x :: st) h Q) ∧
    (∀ (v0 v1 v2 : Value) (a : Nat) (st : List Value) (h : mr_h) (Q : Option Value → mr_h → Prop), mr_wp 114 1 [v0, v1, v2] (.ref a :: st) h Q = mr_gf (h.1 a) 0 1 (fun v => mr_wp 114 4 [v0, v1, v2] (v :: st) h Q)) ∧
    (∀ (v0 v2 : Value) (x : Int32) (st : List Value) (h : mr_h) (Q : Option Value → mr_h → Prop), mr_wp 114 4 [v0, .int x, v2] st h Q = mr_wp 114 5 [v0, .int x, v2] (.int x :: st) h Q) ∧
    (∀ (v0 v1 v2 : Value) (a : Nat) (x : Int32) (st : List Value) (h : mr_h) (Q : Option Value → mr_h → Prop), mr_wp 114 5 [v0, v1, v2] (.int x :: .ref a :: st) h Q = mr_az (h.1 a) x (fun v => mr_wp 114 6 [v0, v1, v2] (.int v :: st) h Q)) ∧
    (∀ (v0 v1 v2 : Value) (x : Int32) (st : List Value) (h : mr_h) (Q : Option Value → mr_h → Prop), mr_wp 114 6 [v0, v1, v2] (.int x :: st) h Q = if ¬ x = 0 then mr_wp 114 11 [v0, v1, v2] st h Q else mr_wp 114 9 [v0, v1, v2] st h Q) ∧
    (∀ (v0 v1 v2 : Value) (st : List Value) (h : mr_h) (Q : Option Value → mr_h → Prop), mr_wp 114 9 [v0, v1, v2] st h Q = mr_wp 114 10 [v0, v1, v2] (.int (0) :: st) h Q) ∧
    (∀ (v0 v1 v2 : Value) (x : Int32) (h : mr_h) (Q : Option Value → mr_h → Prop) (hv : x &&& 1 = x), mr_wp 114 10 [v0, v1, v2] [.int x] h Q = Q (some (.int x)) h) ∧
    (∀ (v0 v1 : Value) (x : Nat) (st : List Value) (h : mr_h) (Q : Option Value → mr_h → Prop), mr_wp 114 11 [v0, v1, .ref x] st h Q = mr_wp 114 12 [v0, v1, .ref x] (.ref x :: st) h Q) ∧
    (∀ (v1 v2 : Value) (x : Nat) (st : List Value) (h : mr_h) (Q : Option Value → mr_h → Prop), mr_wp 114 12 [.ref x, v1, v2] st h Q = mr_wp 114 13 [.ref x, v1, v2] (.ref x :: st) h Q) ∧
    (∀ (v0 v1 v2 : Value) (a : Nat) (st : List Value) (h : mr_h) (Q : Option Value → mr_h → Prop), mr_wp 114 13 [v0, v1, v2] (.ref a :: st) h Q = mr_gf (h.1 a) 0 0 (fun v => mr_wp 114 16 [v0, v1, v2] (v :: st) h Q)) ∧
    (∀ (v0 v2 : Value) (x : Int32) (st : List Value) (h : mr_h) (Q : Option Value → mr_h → Prop), mr_wp 114 16 [v0, .int x, v2] st h Q = mr_wp 114 17 [v0, .int x, v2] (.int x :: st) h Q) ∧
    (∀ (v0 v1 v2 : Value) (a : Nat) (x : Int32) (st : List Value) (h : mr_h) (Q : Option Value → mr_h → Prop), mr_wp 114 17 [v0, v1, v2] (.int x :: .ref a :: st) h Q = mr_aq (h.1 a) x (fun v => mr_wp 114 18 [v0, v1, v2] (.ref v :: st) h Q)) ∧
    (∀ (v0 v1 v2 : Value) (a0 : Nat) (o : Nat) (h : mr_h) (Q : Option Value → mr_h → Prop), mr_wp 114 18 [v0, v1, v2] [.ref a0, .ref o] h Q = mr_rc (h.1 o) 3 (mr_run 41 [.ref o, .ref a0] h (fun v h' => mr_wp 114 21 [v0, v1, v2] (v.toList ++ []) h' Q))) ∧
    (∀ (v0 v1 v2 : Value) (st : List Value) (h : mr_h) (Q : Option Value → mr_h → Prop), mr_wp 114 21 [v0, v1, v2] st h Q = mr_wp 114 22 [v0, v1, v2] (.int (1) :: st) h Q) ∧
    (∀ (v0 v1 v2 : Value) (x : Int32) (h : mr_h) (Q : Option Value → mr_h → Prop) (hv : x &&& 1 = x), mr_wp 114 22 [v0, v1, v2] [.int x] h Q = Q (some (.int x)) h) :=
  ⟨fun v1 v2 x st h Q => gx_one (i := .aload_n 0) (len := 1) (by decide +kernel) rfl,
   fun v0 v1 v2 a st h Q => gx_get (x := 17) (by decide +kernel) (by decide +kernel),
   fun v0 v2 x st h Q => gx_one (i := .iload_n 1) (len := 1) (by decide +kernel) rfl,
   fun v0 v1 v2 a x st h Q => gx_zald (by decide +kernel),
   fun v0 v1 v2 x st h Q => gx_br (i := .ifCond .ne 5) (len := 3) (c := .ne) (by decide +kernel) rfl rfl,
   fun v0 v1 v2 st h Q => gx_one (i := .iconst 0) (len := 1) (by decide +kernel) rfl,
   fun v0 v1 v2 x h Q hv => gx_ret (i := .ireturn) (len := 1) (by decide +kernel) rfl rfl (by simp only [mr_rt, if_pos]; rw [if_pos (Or.inr ⟨by decide +kernel, hv⟩)]),
   fun v0 v1 x st h Q => gx_one (i := .aload_n 2) (len := 1) (by decide +kernel) rfl,
   fun v1 v2 x st h Q => gx_one (i := .aload_n 0) (len := 1) (by decide +kernel) rfl,
   fun v0 v1 v2 a st h Q => gx_get (x := 11) (by decide +kernel) (by decide +kernel),
   fun v0 v2 x st h Q => gx_one (i := .iload_n 1) (len := 1) (by decide +kernel) rfl,
   fun v0 v1 v2 a x st h Q => gx_qald (by decide +kernel),
   fun v0 v1 v2 a0 o h Q => gx_virt (x := 22) (n := 1) (by decide +kernel) (by decide +kernel) rfl (Or.inl (Nat.le_of_ble_eq_true rfl)) (by show _ ≤ mr_mxl 41; rw [show mr_mxl 41 = 2 from by decide +kernel]; exact Nat.le_of_ble_eq_true rfl) (by decide +kernel),
   fun v0 v1 v2 st h Q => gx_one (i := .iconst 1) (len := 1) (by decide +kernel) rfl,
   fun v0 v1 v2 x h Q hv => gx_ret (i := .ireturn) (len := 1) (by decide +kernel) rfl rfl (by simp only [mr_rt, if_pos]; rw [if_pos (Or.inr ⟨by decide +kernel, hv⟩)])⟩
-- switch rl_count 1
set_option maxRecDepth 10000 in
theorem s_rl_count_1 (v0 v1 : Value) (x : Int32) (st : List Value) (h : mr_h) (Q : Option Value → mr_h → Prop) : mr_wp 115 1 [v0, v1] (.int x :: st) h Q = if x = 0 then mr_wp 115 28 [v0, v1] st h Q else if x = 1 then mr_wp 115 36 [v0, v1] st h Q else if x = 2 then mr_wp 115 44 [v0, v1] st h Q else mr_wp 115 52 [v0, v1] st h Q := by
  by_cases e0 : x = 0
  · subst e0
    rw [if_pos rfl]
    exact gx_one (i := .tableswitch 51 0 2 #[27, 35, 43]) (len := 27) (by decide +kernel) rfl
  rw [if_neg e0]
  by_cases e1 : x = 1
  · subst e1
    rw [if_pos rfl]
    exact gx_one (i := .tableswitch 51 0 2 #[27, 35, 43]) (len := 27) (by decide +kernel) rfl
  rw [if_neg e1]
  by_cases e2 : x = 2
  · subst e2
    rw [if_pos rfl]
    exact gx_one (i := .tableswitch 51 0 2 #[27, 35, 43]) (len := 27) (by decide +kernel) rfl
  rw [if_neg e2]
  have hx : x.toInt < 0 ∨ 2 < x.toInt := mr_swd (fun j h1 h2 => by
    have hj : j = 0 ∨ j = 1 ∨ j = 2 := by omega
    rcases hj with rfl | rfl | rfl
    · exact e0
    · exact e1
    · exact e2)
  exact gx_one (i := .tableswitch 51 0 2 #[27, 35, 43]) (len := 27) (by decide +kernel) (by simp only [mr_one]; rw [if_pos hx]; rfl)

theorem S_rl_count : (∀ (v0 : Value) (x : Int32) (st : List Value) (h : mr_h) (Q : Option Value → mr_h → Prop), mr_wp 115 0 [v0, .int x] st h Q = mr_wp 115 1 [v0, .int x] (.int x :: st) h Q) ∧
    (∀ (v1 : Value) (x : Nat) (st : List Value) (h : mr_h) (Q : Option Value → mr_h → Prop), mr_wp 115 28 [.ref x, v1] st h Q = mr_wp 115 29 [.ref x, v1] (.ref x :: st) h Q) ∧
    (∀ (v0 v1 : Value) (a : Nat) (st : List Value) (h : mr_h) (Q : Option Value → mr_h → Prop), mr_wp 115 29 [v0, v1] (.ref a :: st) h Q = mr_gf (h.1 a) 10 0 (fun v => mr_wp 115 32 [v0, v1] (v :: st) h Q)) ∧
    (∀ (v0 v1 : Value) (a : Nat) (st : List Value) (h : mr_h) (Q : Option Value → mr_h → Prop), mr_wp 115 32 [v0, v1] (.ref a :: st) h Q = mr_gf (h.1 a) 3 0 (fun v => mr_wp 115 35 [v0, v1] (v :: st) h Q)) ∧
    (∀ (v0 v1 : Value) (x : Int32) (h : mr_h) (Q : Option Value → mr_h → Prop), mr_wp 115 35 [v0, v1] [.int x] h Q = Q (some (.int x)) h) ∧
    (∀ (v1 : Value) (x : Nat) (st : List Value) (h : mr_h) (Q : Option Value → mr_h → Prop), mr_wp 115 36 [.ref x, v1] st h Q = mr_wp 115 37 [.ref x, v1] (.ref x :: st) h Q) ∧
    (∀ (v0 v1 : Value) (a : Nat) (st : List Value) (h : mr_h) (Q : Option Value → mr_h → Prop), mr_wp 115 37 [v0, v1] (.ref a :: st) h Q = mr_gf (h.1 a) 10 8 (fun v => mr_wp 115 40 [v0, v1] (v :: st) h Q)) ∧
    (∀ (v0 v1 : Value) (a : Nat) (st : List Value) (h : mr_h) (Q : Option Value → mr_h → Prop), mr_wp 115 40 [v0, v1] (.ref a :: st) h Q = mr_gf (h.1 a) 8 0 (fun v => mr_wp 115 43 [v0, v1] (v :: st) h Q)) ∧
    (∀ (v0 v1 : Value) (x : Int32) (h : mr_h) (Q : Option Value → mr_h → Prop), mr_wp 115 43 [v0, v1] [.int x] h Q = Q (some (.int x)) h) ∧
    (∀ (v1 : Value) (x : Nat) (st : List Value) (h : mr_h) (Q : Option Value → mr_h → Prop), mr_wp 115 44 [.ref x, v1] st h Q = mr_wp 115 45 [.ref x, v1] (.ref x :: st) h Q) ∧
    (∀ (v0 v1 : Value) (a : Nat) (st : List Value) (h : mr_h) (Q : Option Value → mr_h → Prop), mr_wp 115 45 [v0, v1] (.ref a :: st) h Q = mr_gf (h.1 a) 10 2 (fun v => mr_wp 115 48 [v0, v1] (v :: st) h Q)) ∧
    (∀ (v0 v1 : Value) (a : Nat) (st : List Value) (h : mr_h) (Q : Option Value → mr_h → Prop), mr_wp 115 48 [v0, v1] (.ref a :: st) h Q = mr_gf (h.1 a) 7 0 (fun v => mr_wp 115 51 [v0, v1] (v :: st) h Q)) ∧
    (∀ (v0 v1 : Value) (x : Int32) (h : mr_h) (Q : Option Value → mr_h → Prop), mr_wp 115 51 [v0, v1] [.int x] h Q = Q (some (.int x)) h) ∧
    (∀ (v0 v1 : Value) (st : List Value) (h : mr_h) (Q : Option Value → mr_h → Prop), mr_wp 115 52 [v0, v1] st h Q = mr_wp 115 53 [v0, v1] (.int (-1) :: st) h Q) ∧
    (∀ (v0 v1 : Value) (x : Int32) (h : mr_h) (Q : Option Value → mr_h → Prop), mr_wp 115 53 [v0, v1] [.int x] h Q = Q (some (.int x)) h) :=
  ⟨fun v0 x st h Q => gx_one (i := .iload_n 1) (len := 1) (by decide +kernel) rfl,
   fun v1 x st h Q => gx_one (i := .aload_n 0) (len := 1) (by decide +kernel) rfl,
   fun v0 v1 a st h Q => gx_get (x := 10) (by decide +kernel) (by decide +kernel),
   fun v0 v1 a st h Q => gx_get (x := 253) (by decide +kernel) (by decide +kernel),
   fun v0 v1 x h Q => gx_ret (i := .ireturn) (len := 1) (by decide +kernel) rfl rfl (by simp only [mr_rt, if_pos]; rw [if_pos (Or.inl (by decide +kernel))]),
   fun v1 x st h Q => gx_one (i := .aload_n 0) (len := 1) (by decide +kernel) rfl,
   fun v0 v1 a st h Q => gx_get (x := 64) (by decide +kernel) (by decide +kernel),
   fun v0 v1 a st h Q => gx_get (x := 101) (by decide +kernel) (by decide +kernel),
   fun v0 v1 x h Q => gx_ret (i := .ireturn) (len := 1) (by decide +kernel) rfl rfl (by simp only [mr_rt, if_pos]; rw [if_pos (Or.inl (by decide +kernel))]),
   fun v1 x st h Q => gx_one (i := .aload_n 0) (len := 1) (by decide +kernel) rfl,
   fun v0 v1 a st h Q => gx_get (x := 22) (by decide +kernel) (by decide +kernel),
   fun v0 v1 a st h Q => gx_get (x := 90) (by decide +kernel) (by decide +kernel),
   fun v0 v1 x h Q => gx_ret (i := .ireturn) (len := 1) (by decide +kernel) rfl rfl (by simp only [mr_rt, if_pos]; rw [if_pos (Or.inl (by decide +kernel))]),
   fun v0 v1 st h Q => gx_one (i := .iconst (-1)) (len := 1) (by decide +kernel) rfl,
   fun v0 v1 x h Q => gx_ret (i := .ireturn) (len := 1) (by decide +kernel) rfl rfl (by simp only [mr_rt, if_pos]; rw [if_pos (Or.inl (by decide +kernel))])⟩
