/-! step equations, printed by wip/whole/gen12run.py; S_x: all of a method but the heads of its loops; s_x_pc: a head -/
-- switch rl_node 11
set_option maxRecDepth 10000 in
theorem s_rl_node_11 (v0 v1 v2 : Value) (x : Int32) (st : List Value) (h : mr_h) (Q : Option Value → mr_h → Prop) : mr_wp 43 11 [v0, v1, v2] (.int x :: st) h Q = if x = 0 then mr_wp 43 52 [v0, v1, v2] st h Q else if x = 1 then mr_wp 43 62 [v0, v1, v2] st h Q else if x = 2 then mr_wp 43 71 [v0, v1, v2] st h Q else if x = 3 then mr_wp 43 81 [v0, v1, v2] st h Q else if x = 4 then mr_wp 43 91 [v0, v1, v2] st h Q else if x = 5 then mr_wp 43 101 [v0, v1, v2] st h Q else if x = 6 then mr_wp 43 111 [v0, v1, v2] st h Q else mr_wp 43 121 [v0, v1, v2] st h Q := by
  by_cases e0 : x = 0
  · subst e0
    rw [if_pos rfl]
    exact gx_one (i := .tableswitch 110 0 6 #[41, 51, 60, 70, 80, 90, 100]) (len := 41) (by decide +kernel) rfl
  rw [if_neg e0]
  by_cases e1 : x = 1
  · subst e1
    rw [if_pos rfl]
    exact gx_one (i := .tableswitch 110 0 6 #[41, 51, 60, 70, 80, 90, 100]) (len := 41) (by decide +kernel) rfl
  rw [if_neg e1]
  by_cases e2 : x = 2
  · subst e2
    rw [if_pos rfl]
    exact gx_one (i := .tableswitch 110 0 6 #[41, 51, 60, 70, 80, 90, 100]) (len := 41) (by decide +kernel) rfl
  rw [if_neg e2]
  by_cases e3 : x = 3
  · subst e3
    rw [if_pos rfl]
    exact gx_one (i := .tableswitch 110 0 6 #[41, 51, 60, 70, 80, 90, 100]) (len := 41) (by decide +kernel) rfl
  rw [if_neg e3]
  by_cases e4 : x = 4
  · subst e4
    rw [if_pos rfl]
    exact gx_one (i := .tableswitch 110 0 6 #[41, 51, 60, 70, 80, 90, 100]) (len := 41) (by decide +kernel) rfl
  rw [if_neg e4]
  by_cases e5 : x = 5
  · subst e5
    rw [if_pos rfl]
    exact gx_one (i := .tableswitch 110 0 6 #[41, 51, 60, 70, 80, 90, 100]) (len := 41) (by decide +kernel) rfl
  rw [if_neg e5]
  by_cases e6 : x = 6
  · subst e6
    rw [if_pos rfl]
    exact gx_one (i := .tableswitch 110 0 6 #[41, 51, 60, 70, 80, 90, 100]) (len := 41) (by decide +kernel) rfl
  rw [if_neg e6]
  have hx : x.toInt < 0 ∨ 6 < x.toInt := mr_swd (fun j h1 h2 => by
    have hj : j = 0 ∨ j = 1 ∨ j = 2 ∨ j = 3 ∨ j = 4 ∨ j = 5 ∨ j = 6 := by omega
    rcases hj with rfl | rfl | rfl | rfl | rfl | rfl | rfl
    · exact e0
    · exact e1
    · exact e2
    · exact e3
    · exact e4
    · exact e5
    · exact e6)
  exact gx_one (i := .tableswitch 110 0 6 #[41, 51, 60, 70, 80, 90, 100]) (len := 41) (by decide +kernel) (by simp only [mr_one]; rw [if_pos hx]; rfl)

theorem S_rl_node_0 : (∀ (v1 v2 : Value) (x : Nat) (st : List Value) (h : mr_h) (Q : Option Value → mr_h → Prop), mr_wp 43 0 [.ref x, v1, v2] st h Q = mr_wp 43 1 [.ref x, v1, v2] (.ref x :: st) h Q) ∧
    (∀ (v0 v2 : Value) (x : Int32) (st : List Value) (h : mr_h) (Q : Option Value → mr_h → Prop), mr_wp 43 1 [v0, .int x, v2] st h Q = mr_wp 43 2 [v0, .int x, v2] (.int x :: st) h Q) ∧
    (∀ (v0 v1 v2 : Value) (a0 : Int32) (o : Nat) (h : mr_h) (Q : Option Value → mr_h → Prop), mr_wp 43 2 [v0, v1, v2] [.int a0, .ref o] h Q = mr_rc (h.1 o) 10 (mr_run 44 [.ref o, .int a0] h (fun v h' => mr_wp 43 5 [v0, v1, v2] (v.toList ++ []) h' Q))) ∧
    (∀ (v0 v1 v2 : Value) (x : Int32) (st : List Value) (h : mr_h) (Q : Option Value → mr_h → Prop), mr_wp 43 5 [v0, v1, v2] (.int x :: st) h Q = if ¬ x = 0 then mr_wp 43 10 [v0, v1, v2] st h Q else mr_wp 43 8 [v0, v1, v2] st h Q) ∧
    (∀ (v0 v1 v2 : Value) (st : List Value) (h : mr_h) (Q : Option Value → mr_h → Prop), mr_wp 43 8 [v0, v1, v2] st h Q = mr_wp 43 9 [v0, v1, v2] (.int (-1) :: st) h Q) ∧
    (∀ (v0 v1 v2 : Value) (x : Int32) (h : mr_h) (Q : Option Value → mr_h → Prop), mr_wp 43 9 [v0, v1, v2] [.int x] h Q = Q (some (.int x)) h) ∧
    (∀ (v0 v1 : Value) (x : Int32) (st : List Value) (h : mr_h) (Q : Option Value → mr_h → Prop), mr_wp 43 10 [v0, v1, .int x] st h Q = mr_wp 43 11 [v0, v1, .int x] (.int x :: st) h Q) ∧
    (∀ (v1 v2 : Value) (x : Nat) (st : List Value) (h : mr_h) (Q : Option Value → mr_h → Prop), mr_wp 43 52 [.ref x, v1, v2] st h Q = mr_wp 43 53 [.ref x, v1, v2] (.ref x :: st) h Q) ∧
    (∀ (v0 v1 v2 : Value) (a : Nat) (st : List Value) (h : mr_h) (Q : Option Value → mr_h → Prop), mr_wp 43 53 [v0, v1, v2] (.ref a :: st) h Q = mr_gf (h.1 a) 10 3 (fun v => mr_wp 43 56 [v0, v1, v2] (v :: st) h Q)) ∧
    (∀ (v0 v1 v2 : Value) (a : Nat) (st : List Value) (h : mr_h) (Q : Option Value → mr_h → Prop), mr_wp 43 56 [v0, v1, v2] (.ref a :: st) h Q = mr_gf (h.1 a) 6 2 (fun v => mr_wp 43 59 [v0, v1, v2] (v :: st) h Q)) ∧
    (∀ (v0 v2 : Value) (x : Int32) (st : List Value) (h : mr_h) (Q : Option Value → mr_h → Prop), mr_wp 43 59 [v0, .int x, v2] st h Q = mr_wp 43 60 [v0, .int x, v2] (.int x :: st) h Q) ∧
    (∀ (v0 v1 v2 : Value) (a : Nat) (x : Int32) (st : List Value) (h : mr_h) (Q : Option Value → mr_h → Prop), mr_wp 43 60 [v0, v1, v2] (.int x :: .ref a :: st) h Q = mr_ai (h.1 a) x (fun v => mr_wp 43 61 [v0, v1, v2] (.int v :: st) h Q)) ∧
    (∀ (v0 v1 v2 : Value) (x : Int32) (h : mr_h) (Q : Option Value → mr_h → Prop), mr_wp 43 61 [v0, v1, v2] [.int x] h Q = Q (some (.int x)) h) ∧
    (∀ (v1 v2 : Value) (x : Nat) (st : List Value) (h : mr_h) (Q : Option Value → mr_h → Prop), mr_wp 43 62 [.ref x, v1, v2] st h Q = mr_wp 43 63 [.ref x, v1, v2] (.ref x :: st) h Q) ∧
    (∀ (v0 v1 v2 : Value) (a : Nat) (st : List Value) (h : mr_h) (Q : Option Value → mr_h → Prop), mr_wp 43 63 [v0, v1, v2] (.ref a :: st) h Q = mr_gf (h.1 a) 10 3 (fun v => mr_wp 43 66 [v0, v1, v2] (v :: st) h Q)) ∧
    (∀ (v0 v2 : Value) (x : Int32) (st : List Value) (h : mr_h) (Q : Option Value → mr_h → Prop), mr_wp 43 66 [v0, .int x, v2] st h Q = mr_wp 43 67 [v0, .int x, v2] (.int x :: st) h Q) ∧
    (∀ (v0 v1 v2 : Value) (a0 : Int32) (o : Nat) (h : mr_h) (Q : Option Value → mr_h → Prop), mr_wp 43 67 [v0, v1, v2] [.int a0, .ref o] h Q = mr_rc (h.1 o) 6 (mr_run 20 [.ref o, .int a0] h (fun v h' => mr_wp 43 70 [v0, v1, v2] (v.toList ++ []) h' Q))) ∧
    (∀ (v0 v1 v2 : Value) (x : Int32) (h : mr_h) (Q : Option Value → mr_h → Prop), mr_wp 43 70 [v0, v1, v2] [.int x] h Q = Q (some (.int x)) h) ∧
    (∀ (v1 v2 : Value) (x : Nat) (st : List Value) (h : mr_h) (Q : Option Value → mr_h → Prop), mr_wp 43 71 [.ref x, v1, v2] st h Q = mr_wp 43 72 [.ref x, v1, v2] (.ref x :: st) h Q) ∧
    (∀ (v0 v1 v2 : Value) (a : Nat) (st : List Value) (h : mr_h) (Q : Option Value → mr_h → Prop), mr_wp 43 72 [v0, v1, v2] (.ref a :: st) h Q = mr_gf (h.1 a) 10 0 (fun v => mr_wp 43 75 [v0, v1, v2] (v :: st) h Q)) ∧
    (∀ (v0 v1 v2 : Value) (a : Nat) (st : List Value) (h : mr_h) (Q : Option Value → mr_h → Prop), mr_wp 43 75 [v0, v1, v2] (.ref a :: st) h Q = mr_gf (h.1 a) 3 2 (fun v => mr_wp 43 78 [v0, v1, v2] (v :: st) h Q)) ∧
    (∀ (v0 v2 : Value) (x : Int32) (st : List Value) (h : mr_h) (Q : Option Value → mr_h → Prop), mr_wp 43 78 [v0, .int x, v2] st h Q = mr_wp 43 79 [v0, .int x, v2] (.int x :: st) h Q) ∧
    (∀ (v0 v1 v2 : Value) (a : Nat) (x : Int32) (st : List Value) (h : mr_h) (Q : Option Value → mr_h → Prop), mr_wp 43 79 [v0, v1, v2] (.int x :: .ref a :: st) h Q = mr_ai (h.1 a) x (fun v => mr_wp 43 80 [v0, v1, v2] (.int v :: st) h Q)) ∧
    (∀ (v0 v1 v2 : Value) (x : Int32) (h : mr_h) (Q : Option Value → mr_h → Prop), mr_wp 43 80 [v0, v1, v2] [.int x] h Q = Q (some (.int x)) h) ∧
    (∀ (v1 v2 : Value) (x : Nat) (st : List Value) (h : mr_h) (Q : Option Value → mr_h → Prop), mr_wp 43 81 [.ref x, v1, v2] st h Q = mr_wp 43 82 [.ref x, v1, v2] (.ref x :: st) h Q) ∧
    (∀ (v0 v1 v2 : Value) (a : Nat) (st : List Value) (h : mr_h) (Q : Option Value → mr_h → Prop), mr_wp 43 82 [v0, v1, v2] (.ref a :: st) h Q = mr_gf (h.1 a) 10 3 (fun v => mr_wp 43 85 [v0, v1, v2] (v :: st) h Q)) ∧
    (∀ (v0 v1 v2 : Value) (a : Nat) (st : List Value) (h : mr_h) (Q : Option Value → mr_h → Prop), mr_wp 43 85 [v0, v1, v2] (.ref a :: st) h Q = mr_gf (h.1 a) 6 3 (fun v => mr_wp 43 88 [v0, v1, v2] (v :: st) h Q)) ∧
    (∀ (v0 v2 : Value) (x : Int32) (st : List Value) (h : mr_h) (Q : Option Value → mr_h → Prop), mr_wp 43 88 [v0, .int x, v2] st h Q = mr_wp 43 89 [v0, .int x, v2] (.int x :: st) h Q) ∧
    (∀ (v0 v1 v2 : Value) (a : Nat) (x : Int32) (st : List Value) (h : mr_h) (Q : Option Value → mr_h → Prop), mr_wp 43 89 [v0, v1, v2] (.int x :: .ref a :: st) h Q = mr_ai (h.1 a) x (fun v => mr_wp 43 90 [v0, v1, v2] (.int v :: st) h Q)) ∧
    (∀ (v0 v1 v2 : Value) (x : Int32) (h : mr_h) (Q : Option Value → mr_h → Prop), mr_wp 43 90 [v0, v1, v2] [.int x] h Q = Q (some (.int x)) h) ∧
    (∀ (v1 v2 : Value) (x : Nat) (st : List Value) (h : mr_h) (Q : Option Value → mr_h → Prop), mr_wp 43 91 [.ref x, v1, v2] st h Q = mr_wp 43 92 [.ref x, v1, v2] (.ref x :: st) h Q) ∧
    (∀ (v0 v1 v2 : Value) (a : Nat) (st : List Value) (h : mr_h) (Q : Option Value → mr_h → Prop), mr_wp 43 92 [v0, v1, v2] (.ref a :: st) h Q = mr_gf (h.1 a) 10 3 (fun v => mr_wp 43 95 [v0, v1, v2] (v :: st) h Q)) ∧
    (∀ (v0 v1 v2 : Value) (a : Nat) (st : List Value) (h : mr_h) (Q : Option Value → mr_h → Prop), mr_wp 43 95 [v0, v1, v2] (.ref a :: st) h Q = mr_gf (h.1 a) 6 4 (fun v => mr_wp 43 98 [v0, v1, v2] (v :: st) h Q)) ∧
    (∀ (v0 v2 : Value) (x : Int32) (st : List Value) (h : mr_h) (Q : Option Value → mr_h → Prop), mr_wp 43 98 [v0, .int x, v2] st h Q = mr_wp 43 99 [v0, .int x, v2] (.int x :: st) h Q) ∧
    (∀ (v0 v1 v2 : Value) (a : Nat) (x : Int32) (st : List Value) (h : mr_h) (Q : Option Value → mr_h → Prop), mr_wp 43 99 [v0, v1, v2] (.int x :: .ref a :: st) h Q = mr_ai (h.1 a) x (fun v => mr_wp 43 100 [v0, v1, v2] (.int v :: st) h Q)) ∧
    (∀ (v0 v1 v2 : Value) (x : Int32) (h : mr_h) (Q : Option Value → mr_h → Prop), mr_wp 43 100 [v0, v1, v2] [.int x] h Q = Q (some (.int x)) h) ∧
    (∀ (v1 v2 : Value) (x : Nat) (st : List Value) (h : mr_h) (Q : Option Value → mr_h → Prop), mr_wp 43 101 [.ref x, v1, v2] st h Q = mr_wp 43 102 [.ref x, v1, v2] (.ref x :: st) h Q) ∧
    (∀ (v0 v1 v2 : Value) (a : Nat) (st : List Value) (h : mr_h) (Q : Option Value → mr_h → Prop), mr_wp 43 102 [v0, v1, v2] (.ref a :: st) h Q = mr_gf (h.1 a) 10 3 (fun v => mr_wp 43 105 [v0, v1, v2] (v :: st) h Q)) ∧
    (∀ (v0 v1 v2 : Value) (a : Nat) (st : List Value) (h : mr_h) (Q : Option Value → mr_h → Prop), mr_wp 43 105 [v0, v1, v2] (.ref a :: st) h Q = mr_gf (h.1 a) 6 0 (fun v => mr_wp 43 108 [v0, v1, v2] (v :: st) h Q)) ∧
    (∀ (v0 v2 : Value) (x : Int32) (st : List Value) (h : mr_h) (Q : Option Value → mr_h → Prop), mr_wp 43 108 [v0, .int x, v2] st h Q = mr_wp 43 109 [v0, .int x, v2] (.int x :: st) h Q) :=
  ⟨fun v1 v2 x st h Q => gx_one (i := .aload_n 0) (len := 1) (by decide +kernel) rfl,
   fun v0 v2 x st h Q => gx_one (i := .iload_n 1) (len := 1) (by decide +kernel) rfl,
   fun v0 v1 v2 a0 o h Q => gx_virt (x := 108) (n := 1) (by decide +kernel) (by decide +kernel) rfl (Or.inl (Nat.le_of_ble_eq_true rfl)) (by show _ ≤ mr_mxl 44; rw [show mr_mxl 44 = 2 from by decide +kernel]; exact Nat.le_of_ble_eq_true rfl) (by decide +kernel),
   fun v0 v1 v2 x st h Q => gx_br (i := .ifCond .ne 5) (len := 3) (c := .ne) (by decide +kernel) rfl rfl,
   fun v0 v1 v2 st h Q => gx_one (i := .iconst (-1)) (len := 1) (by decide +kernel) rfl,
   fun v0 v1 v2 x h Q => gx_ret (i := .ireturn) (len := 1) (by decide +kernel) rfl rfl (by simp only [mr_rt, if_pos]; rw [if_pos (Or.inl (by decide +kernel))]),
   fun v0 v1 x st h Q => gx_one (i := .iload_n 2) (len := 1) (by decide +kernel) rfl,
   fun v1 v2 x st h Q => gx_one (i := .aload_n 0) (len := 1) (by decide +kernel) rfl,
   fun v0 v1 v2 a st h Q => gx_get (x := 29) (by decide +kernel) (by decide +kernel),
   fun v0 v1 v2 a st h Q => gx_get (x := 111) (by decide +kernel) (by decide +kernel),
   fun v0 v2 x st h Q => gx_one (i := .iload_n 1) (len := 1) (by decide +kernel) rfl,
   fun v0 v1 v2 a x st h Q => gx_iald (by decide +kernel),
   fun v0 v1 v2 x h Q => gx_ret (i := .ireturn) (len := 1) (by decide +kernel) rfl rfl (by simp only [mr_rt, if_pos]; rw [if_pos (Or.inl (by decide +kernel))]),
   fun v1 v2 x st h Q => gx_one (i := .aload_n 0) (len := 1) (by decide +kernel) rfl,
   fun v0 v1 v2 a st h Q => gx_get (x := 29) (by decide +kernel) (by decide +kernel),
   fun v0 v2 x st h Q => gx_one (i := .iload_n 1) (len := 1) (by decide +kernel) rfl,
   fun v0 v1 v2 a0 o h Q => gx_virt (x := 115) (n := 1) (by decide +kernel) (by decide +kernel) rfl (Or.inl (Nat.le_of_ble_eq_true rfl)) (by show _ ≤ mr_mxl 20; rw [show mr_mxl 20 = 2 from by decide +kernel]; exact Nat.le_of_ble_eq_true rfl) (by decide +kernel),
   fun v0 v1 v2 x h Q => gx_ret (i := .ireturn) (len := 1) (by decide +kernel) rfl rfl (by simp only [mr_rt, if_pos]; rw [if_pos (Or.inl (by decide +kernel))]),
   fun v1 v2 x st h Q => gx_one (i := .aload_n 0) (len := 1) (by decide +kernel) rfl,
   fun v0 v1 v2 a st h Q => gx_get (x := 10) (by decide +kernel) (by decide +kernel),
   fun v0 v1 v2 a st h Q => gx_get (x := 119) (by decide +kernel) (by decide +kernel),
   fun v0 v2 x st h Q => gx_one (i := .iload_n 1) (len := 1) (by decide +kernel) rfl,
   fun v0 v1 v2 a x st h Q => gx_iald (by decide +kernel),
   fun v0 v1 v2 x h Q => gx_ret (i := .ireturn) (len := 1) (by decide +kernel) rfl rfl (by simp only [mr_rt, if_pos]; rw [if_pos (Or.inl (by decide +kernel))]),
   fun v1 v2 x st h Q => gx_one (i := .aload_n 0) (len := 1) (by decide +kernel) rfl,
   fun v0 v1 v2 a st h Q => gx_get (x := 29) (by decide +kernel) (by decide +kernel),
   fun v0 v1 v2 a st h Q => gx_get (x := 122) (by decide +kernel) (by decide +kernel),
   fun v0 v2 x st h Q => gx_one (i := .iload_n 1) (len := 1) (by decide +kernel) rfl,
   fun v0 v1 v2 a x st h Q => gx_iald (by decide +kernel),
   fun v0 v1 v2 x h Q => gx_ret (i := .ireturn) (len := 1) (by decide +kernel) rfl rfl (by simp only [mr_rt, if_pos]; rw [if_pos (Or.inl (by decide +kernel))]),
   fun v1 v2 x st h Q => gx_one (i := .aload_n 0) (len := 1) (by decide +kernel) rfl,
   fun v0 v1 v2 a st h Q => gx_get (x := 29) (by decide +kernel) (by decide +kernel),
   fun v0 v1 v2 a st h Q => gx_get (x := 125) (by decide +kernel) (by decide +kernel),
   fun v0 v2 x st h Q => gx_one (i := .iload_n 1) (len := 1) (by decide +kernel) rfl,
   fun v0 v1 v2 a x st h Q => gx_iald (by decide +kernel),
   fun v0 v1 v2 x h Q => gx_ret (i := .ireturn) (len := 1) (by decide +kernel) rfl rfl (by simp only [mr_rt, if_pos]; rw [if_pos (Or.inl (by decide +kernel))]),
   fun v1 v2 x st h Q => gx_one (i := .aload_n 0) (len := 1) (by decide +kernel) rfl,
   fun v0 v1 v2 a st h Q => gx_get (x := 29) (by decide +kernel) (by decide +kernel),
   fun v0 v1 v2 a st h Q => gx_get (x := 128) (by decide +kernel) (by decide +kernel),
   fun v0 v2 x st h Q => gx_one (i := .iload_n 1) (len := 1) (by decide +kernel) rfl⟩
theorem S_rl_node_1 : (∀ (v0 v1 v2 : Value) (a : Nat) (x : Int32) (st : List Value) (h : mr_h) (Q : Option Value → mr_h → Prop), mr_wp 43 109 [v0, v1, v2] (.int x :: .ref a :: st) h Q = mr_ai (h.1 a) x (fun v => mr_wp 43 110 [v0, v1, v2] (.int v :: st) h Q)) ∧
    (∀ (v0 v1 v2 : Value) (x : Int32) (h : mr_h) (Q : Option Value → mr_h → Prop), mr_wp 43 110 [v0, v1, v2] [.int x] h Q = Q (some (.int x)) h) ∧
    (∀ (v1 v2 : Value) (x : Nat) (st : List Value) (h : mr_h) (Q : Option Value → mr_h → Prop), mr_wp 43 111 [.ref x, v1, v2] st h Q = mr_wp 43 112 [.ref x, v1, v2] (.ref x :: st) h Q) ∧
    (∀ (v0 v1 v2 : Value) (a : Nat) (st : List Value) (h : mr_h) (Q : Option Value → mr_h → Prop), mr_wp 43 112 [v0, v1, v2] (.ref a :: st) h Q = mr_gf (h.1 a) 10 3 (fun v => mr_wp 43 115 [v0, v1, v2] (v :: st) h Q)) ∧
    (∀ (v0 v1 v2 : Value) (a : Nat) (st : List Value) (h : mr_h) (Q : Option Value → mr_h → Prop), mr_wp 43 115 [v0, v1, v2] (.ref a :: st) h Q = mr_gf (h.1 a) 6 1 (fun v => mr_wp 43 118 [v0, v1, v2] (v :: st) h Q)) ∧
    (∀ (v0 v2 : Value) (x : Int32) (st : List Value) (h : mr_h) (Q : Option Value → mr_h → Prop), mr_wp 43 118 [v0, .int x, v2] st h Q = mr_wp 43 119 [v0, .int x, v2] (.int x :: st) h Q) ∧
    (∀ (v0 v1 v2 : Value) (a : Nat) (x : Int32) (st : List Value) (h : mr_h) (Q : Option Value → mr_h → Prop), mr_wp 43 119 [v0, v1, v2] (.int x :: .ref a :: st) h Q = mr_ai (h.1 a) x (fun v => mr_wp 43 120 [v0, v1, v2] (.int v :: st) h Q)) ∧
    (∀ (v0 v1 v2 : Value) (x : Int32) (h : mr_h) (Q : Option Value → mr_h → Prop), mr_wp 43 120 [v0, v1, v2] [.int x] h Q = Q (some (.int x)) h) ∧
    (∀ (v0 v1 v2 : Value) (st : List Value) (h : mr_h) (Q : Option Value → mr_h → Prop), mr_wp 43 121 [v0, v1, v2] st h Q = mr_wp 43 122 [v0, v1, v2] (.int (-1) :: st) h Q) ∧
    (∀ (v0 v1 v2 : Value) (x : Int32) (h : mr_h) (Q : Option Value → mr_h → Prop), mr_wp 43 122 [v0, v1, v2] [.int x] h Q = Q (some (.int x)) h) :=
  ⟨fun v0 v1 v2 a x st h Q => gx_iald (by decide +kernel),
   fun v0 v1 v2 x h Q => gx_ret (i := .ireturn) (len := 1) (by decide +kernel) rfl rfl (by simp only [mr_rt, if_pos]; rw [if_pos (Or.inl (by decide +kernel))]),
   fun v1 v2 x st h Q => gx_one (i := .aload_n 0) (len := 1) (by decide +kernel) rfl,
   fun v0 v1 v2 a st h Q => gx_get (x := 29) (by decide +kernel) (by decide +kernel),
   fun v0 v1 v2 a st h Q => gx_get (x := 131) (by decide +kernel) (by decide +kernel),
   fun v0 v2 x st h Q => gx_one (i := .iload_n 1) (len := 1) (by decide +kernel) rfl,
   fun v0 v1 v2 a x st h Q => gx_iald (by decide +kernel),
   fun v0 v1 v2 x h Q => gx_ret (i := .ireturn) (len := 1) (by decide +kernel) rfl rfl (by simp only [mr_rt, if_pos]; rw [if_pos (Or.inl (by decide +kernel))]),
   fun v0 v1 v2 st h Q => gx_one (i := .iconst (-1)) (len := 1) (by decide +kernel) rfl,
   fun v0 v1 v2 x h Q => gx_ret (i := .ireturn) (len := 1) (by decide +kernel) rfl rfl (by simp only [mr_rt, if_pos]; rw [if_pos (Or.inl (by decide +kernel))])⟩

theorem S_rl_isNode : (∀ (v0 : Value) (x : Int32) (st : List Value) (h : mr_h) (Q : Option Value → mr_h → Prop), mr_wp 44 0 [v0, .int x] st h Q = mr_wp 44 1 [v0, .int x] (.int x :: st) h Q) ∧
    (∀ (v0 v1 : Value) (x : Int32) (st : List Value) (h : mr_h) (Q : Option Value → mr_h → Prop), mr_wp 44 1 [v0, v1] (.int x :: st) h Q = if x < 0 then mr_wp 44 19 [v0, v1] st h Q else mr_wp 44 4 [v0, v1] st h Q) ∧
    (∀ (v0 : Value) (x : Int32) (st : List Value) (h : mr_h) (Q : Option Value → mr_h → Prop), mr_wp 44 4 [v0, .int x] st h Q = mr_wp 44 5 [v0, .int x] (.int x :: st) h Q) ∧
    (∀ (v1 : Value) (x : Nat) (st : List Value) (h : mr_h) (Q : Option Value → mr_h → Prop), mr_wp 44 5 [.ref x, v1] st h Q = mr_wp 44 6 [.ref x, v1] (.ref x :: st) h Q) ∧
    (∀ (v0 v1 : Value) (a : Nat) (st : List Value) (h : mr_h) (Q : Option Value → mr_h → Prop), mr_wp 44 6 [v0, v1] (.ref a :: st) h Q = mr_gf (h.1 a) 10 0 (fun v => mr_wp 44 9 [v0, v1] (v :: st) h Q)) ∧
    (∀ (v0 v1 : Value) (a : Nat) (st : List Value) (h : mr_h) (Q : Option Value → mr_h → Prop), mr_wp 44 9 [v0, v1] (.ref a :: st) h Q = mr_gf (h.1 a) 3 0 (fun v => mr_wp 44 12 [v0, v1] (v :: st) h Q)) ∧
    (∀ (v0 v1 : Value) (x : Int32) (y : Int32) (st : List Value) (h : mr_h) (Q : Option Value → mr_h → Prop), mr_wp 44 12 [v0, v1] (.int y :: .int x :: st) h Q = if y ≤ x then mr_wp 44 19 [v0, v1] st h Q else mr_wp 44 15 [v0, v1] st h Q) ∧
    (∀ (v0 v1 : Value) (st : List Value) (h : mr_h) (Q : Option Value → mr_h → Prop), mr_wp 44 15 [v0, v1] st h Q = mr_wp 44 16 [v0, v1] (.int (1) :: st) h Q) ∧
    (∀ (v0 v1 : Value) (st : List Value) (h : mr_h) (Q : Option Value → mr_h → Prop), mr_wp 44 16 [v0, v1] st h Q = mr_wp 44 20 [v0, v1] st h Q) ∧
    (∀ (v0 v1 : Value) (st : List Value) (h : mr_h) (Q : Option Value → mr_h → Prop), mr_wp 44 19 [v0, v1] st h Q = mr_wp 44 20 [v0, v1] (.int (0) :: st) h Q) ∧
    (∀ (v0 v1 : Value) (x : Int32) (h : mr_h) (Q : Option Value → mr_h → Prop) (hv : x &&& 1 = x), mr_wp 44 20 [v0, v1] [.int x] h Q = Q (some (.int x)) h) :=
  ⟨fun v0 x st h Q => gx_one (i := .iload_n 1) (len := 1) (by decide +kernel) rfl,
   fun v0 v1 x st h Q => gx_br (i := .ifCond .lt 18) (len := 3) (c := .lt) (by decide +kernel) rfl rfl,
   fun v0 x st h Q => gx_one (i := .iload_n 1) (len := 1) (by decide +kernel) rfl,
   fun v1 x st h Q => gx_one (i := .aload_n 0) (len := 1) (by decide +kernel) rfl,
   fun v0 v1 a st h Q => gx_get (x := 10) (by decide +kernel) (by decide +kernel),
   fun v0 v1 a st h Q => gx_get (x := 253) (by decide +kernel) (by decide +kernel),
   fun v0 v1 x y st h Q => gx_br (i := .if_icmp .ge 7) (len := 3) (c := .ge) (by decide +kernel) rfl rfl,
   fun v0 v1 st h Q => gx_one (i := .iconst 1) (len := 1) (by decide +kernel) rfl,
   fun v0 v1 st h Q => gx_one (i := .goto 4) (len := 3) (by decide +kernel) rfl,
   fun v0 v1 st h Q => gx_one (i := .iconst 0) (len := 1) (by decide +kernel) rfl,
   fun v0 v1 x h Q hv => gx_ret (i := .ireturn) (len := 1) (by decide +kernel) rfl rfl (by simp only [mr_rt, if_pos]; rw [if_pos (Or.inr ⟨by decide +kernel, hv⟩)])⟩
theorem S_rl_edge : (∀ (v1 v2 : Value) (x : Nat) (st : List Value) (h : mr_h) (Q : Option Value → mr_h → Prop), mr_wp 45 0 [.ref x, v1, v2] st h Q = mr_wp 45 1 [.ref x, v1, v2] (.ref x :: st) h Q) ∧
    (∀ (v0 v2 : Value) (x : Int32) (st : List Value) (h : mr_h) (Q : Option Value → mr_h → Prop), mr_wp 45 1 [v0, .int x, v2] st h Q = mr_wp 45 2 [v0, .int x, v2] (.int x :: st) h Q) ∧
    (∀ (v0 v1 : Value) (x : Int32) (st : List Value) (h : mr_h) (Q : Option Value → mr_h → Prop), mr_wp 45 2 [v0, v1, .int x] st h Q = mr_wp 45 3 [v0, v1, .int x] (.int x :: st) h Q) ∧
    (∀ (v0 v1 v2 : Value) (a0 : Int32) (a1 : Int32) (o : Nat) (h : mr_h) (Q : Option Value → mr_h → Prop), mr_wp 45 3 [v0, v1, v2] [.int a1, .int a0, .ref o] h Q = mr_rc (h.1 o) 10 (mr_run 46 [.ref o, .int a0, .int a1] h (fun v h' => mr_wp 45 6 [v0, v1, v2] (v.toList ++ []) h' Q))) ∧
    (∀ (v0 v1 v2 : Value) (x : Int32) (st : List Value) (h : mr_h) (Q : Option Value → mr_h → Prop), mr_wp 45 6 [v0, v1, v2] (.int x :: st) h Q = if ¬ x = 0 then mr_wp 45 11 [v0, v1, v2] st h Q else mr_wp 45 9 [v0, v1, v2] st h Q) ∧
    (∀ (v0 v1 v2 : Value) (st : List Value) (h : mr_h) (Q : Option Value → mr_h → Prop), mr_wp 45 9 [v0, v1, v2] st h Q = mr_wp 45 10 [v0, v1, v2] (.int (-1) :: st) h Q) ∧
    (∀ (v0 v1 v2 : Value) (x : Int32) (h : mr_h) (Q : Option Value → mr_h → Prop), mr_wp 45 10 [v0, v1, v2] [.int x] h Q = Q (some (.int x)) h) ∧
    (∀ (v1 v2 : Value) (x : Nat) (st : List Value) (h : mr_h) (Q : Option Value → mr_h → Prop), mr_wp 45 11 [.ref x, v1, v2] st h Q = mr_wp 45 12 [.ref x, v1, v2] (.ref x :: st) h Q) ∧
    (∀ (v0 v1 v2 : Value) (a : Nat) (st : List Value) (h : mr_h) (Q : Option Value → mr_h → Prop), mr_wp 45 12 [v0, v1, v2] (.ref a :: st) h Q = mr_gf (h.1 a) 10 0 (fun v => mr_wp 45 15 [v0, v1, v2] (v :: st) h Q)) ∧
    (∀ (v0 v2 : Value) (x : Int32) (st : List Value) (h : mr_h) (Q : Option Value → mr_h → Prop), mr_wp 45 15 [v0, .int x, v2] st h Q = mr_wp 45 16 [v0, .int x, v2] (.int x :: st) h Q) ∧
    (∀ (v0 v1 : Value) (x : Int32) (st : List Value) (h : mr_h) (Q : Option Value → mr_h → Prop), mr_wp 45 16 [v0, v1, .int x] st h Q = mr_wp 45 17 [v0, v1, .int x] (.int x :: st) h Q) ∧
    (∀ (v0 v1 v2 : Value) (a0 : Int32) (a1 : Int32) (o : Nat) (h : mr_h) (Q : Option Value → mr_h → Prop), mr_wp 45 17 [v0, v1, v2] [.int a1, .int a0, .ref o] h Q = mr_rc (h.1 o) 3 (mr_run 38 [.ref o, .int a0, .int a1] h (fun v h' => mr_wp 45 20 [v0, v1, v2] (v.toList ++ []) h' Q))) ∧
    (∀ (v0 v1 v2 : Value) (x : Int32) (st : List Value) (h : mr_h) (Q : Option Value → mr_h → Prop), mr_wp 45 20 [v0, v1, v2] (.int x :: st) h Q = if x = 0 then mr_wp 45 27 [v0, v1, v2] st h Q else mr_wp 45 23 [v0, v1, v2] st h Q) ∧
    (∀ (v0 v1 v2 : Value) (st : List Value) (h : mr_h) (Q : Option Value → mr_h → Prop), mr_wp 45 23 [v0, v1, v2] st h Q = mr_wp 45 24 [v0, v1, v2] (.int (1) :: st) h Q) ∧
    (∀ (v0 v1 v2 : Value) (st : List Value) (h : mr_h) (Q : Option Value → mr_h → Prop), mr_wp 45 24 [v0, v1, v2] st h Q = mr_wp 45 28 [v0, v1, v2] st h Q) ∧
    (∀ (v0 v1 v2 : Value) (st : List Value) (h : mr_h) (Q : Option Value → mr_h → Prop), mr_wp 45 27 [v0, v1, v2] st h Q = mr_wp 45 28 [v0, v1, v2] (.int (0) :: st) h Q) ∧
    (∀ (v0 v1 v2 : Value) (x : Int32) (h : mr_h) (Q : Option Value → mr_h → Prop), mr_wp 45 28 [v0, v1, v2] [.int x] h Q = Q (some (.int x)) h) :=
  ⟨fun v1 v2 x st h Q => gx_one (i := .aload_n 0) (len := 1) (by decide +kernel) rfl,
   fun v0 v2 x st h Q => gx_one (i := .iload_n 1) (len := 1) (by decide +kernel) rfl,
   fun v0 v1 x st h Q => gx_one (i := .iload_n 2) (len := 1) (by decide +kernel) rfl,
   fun v0 v1 v2 a0 a1 o h Q => gx_virt (x := 134) (n := 2) (by decide +kernel) (by decide +kernel) rfl (Or.inl (Nat.le_of_ble_eq_true rfl)) (by show _ ≤ mr_mxl 46; rw [show mr_mxl 46 = 3 from by decide +kernel]; exact Nat.le_of_ble_eq_true rfl) (by decide +kernel),
   fun v0 v1 v2 x st h Q => gx_br (i := .ifCond .ne 5) (len := 3) (c := .ne) (by decide +kernel) rfl rfl,
   fun v0 v1 v2 st h Q => gx_one (i := .iconst (-1)) (len := 1) (by decide +kernel) rfl,
   fun v0 v1 v2 x h Q => gx_ret (i := .ireturn) (len := 1) (by decide +kernel) rfl rfl (by simp only [mr_rt, if_pos]; rw [if_pos (Or.inl (by decide +kernel))]),
   fun v1 v2 x st h Q => gx_one (i := .aload_n 0) (len := 1) (by decide +kernel) rfl,
   fun v0 v1 v2 a st h Q => gx_get (x := 10) (by decide +kernel) (by decide +kernel),
   fun v0 v2 x st h Q => gx_one (i := .iload_n 1) (len := 1) (by decide +kernel) rfl,
   fun v0 v1 x st h Q => gx_one (i := .iload_n 2) (len := 1) (by decide +kernel) rfl,
   fun v0 v1 v2 a0 a1 o h Q => gx_virt (x := 138) (n := 2) (by decide +kernel) (by decide +kernel) rfl (Or.inl (Nat.le_of_ble_eq_true rfl)) (by show _ ≤ mr_mxl 38; rw [show mr_mxl 38 = 3 from by decide +kernel]; exact Nat.le_of_ble_eq_true rfl) (by decide +kernel),
   fun v0 v1 v2 x st h Q => gx_br (i := .ifCond .eq 7) (len := 3) (c := .eq) (by decide +kernel) rfl rfl,
   fun v0 v1 v2 st h Q => gx_one (i := .iconst 1) (len := 1) (by decide +kernel) rfl,
   fun v0 v1 v2 st h Q => gx_one (i := .goto 4) (len := 3) (by decide +kernel) rfl,
   fun v0 v1 v2 st h Q => gx_one (i := .iconst 0) (len := 1) (by decide +kernel) rfl,
   fun v0 v1 v2 x h Q => gx_ret (i := .ireturn) (len := 1) (by decide +kernel) rfl rfl (by simp only [mr_rt, if_pos]; rw [if_pos (Or.inl (by decide +kernel))])⟩
theorem S_rl_areTwoNodes : (∀ (v1 v2 : Value) (x : Nat) (st : List Value) (h : mr_h) (Q : Option Value → mr_h → Prop), mr_wp 46 0 [.ref x, v1, v2] st h Q = mr_wp 46 1 [.ref x, v1, v2] (.ref x :: st) h Q) ∧
    (∀ (v0 v2 : Value) (x : Int32) (st : List Value) (h : mr_h) (Q : Option Value → mr_h → Prop), mr_wp 46 1 [v0, .int x, v2] st h Q = mr_wp 46 2 [v0, .int x, v2] (.int x :: st) h Q) ∧
    (∀ (v0 v1 : Value) (x : Int32) (st : List Value) (h : mr_h) (Q : Option Value → mr_h → Prop), mr_wp 46 2 [v0, v1, .int x] st h Q = mr_wp 46 3 [v0, v1, .int x] (.int x :: st) h Q) ∧
    (∀ (v0 v1 v2 : Value) (a0 : Int32) (a1 : Int32) (o : Nat) (h : mr_h) (Q : Option Value → mr_h → Prop), mr_wp 46 3 [v0, v1, v2] [.int a1, .int a0, .ref o] h Q = mr_rc (h.1 o) 10 (mr_run 47 [.ref o, .int a0, .int a1] h (fun v h' => mr_wp 46 6 [v0, v1, v2] (v.toList ++ []) h' Q))) ∧
    (∀ (v0 v1 v2 : Value) (x : Int32) (st : List Value) (h : mr_h) (Q : Option Value → mr_h → Prop), mr_wp 46 6 [v0, v1, v2] (.int x :: st) h Q = if x = 0 then mr_wp 46 18 [v0, v1, v2] st h Q else mr_wp 46 9 [v0, v1, v2] st h Q) ∧
    (∀ (v0 v2 : Value) (x : Int32) (st : List Value) (h : mr_h) (Q : Option Value → mr_h → Prop), mr_wp 46 9 [v0, .int x, v2] st h Q = mr_wp 46 10 [v0, .int x, v2] (.int x :: st) h Q) ∧
    (∀ (v0 v1 : Value) (x : Int32) (st : List Value) (h : mr_h) (Q : Option Value → mr_h → Prop), mr_wp 46 10 [v0, v1, .int x] st h Q = mr_wp 46 11 [v0, v1, .int x] (.int x :: st) h Q) ∧
    (∀ (v0 v1 v2 : Value) (x : Int32) (y : Int32) (st : List Value) (h : mr_h) (Q : Option Value → mr_h → Prop), mr_wp 46 11 [v0, v1, v2] (.int y :: .int x :: st) h Q = if x = y then mr_wp 46 18 [v0, v1, v2] st h Q else mr_wp 46 14 [v0, v1, v2] st h Q) ∧
    (∀ (v0 v1 v2 : Value) (st : List Value) (h : mr_h) (Q : Option Value → mr_h → Prop), mr_wp 46 14 [v0, v1, v2] st h Q = mr_wp 46 15 [v0, v1, v2] (.int (1) :: st) h Q) ∧
    (∀ (v0 v1 v2 : Value) (st : List Value) (h : mr_h) (Q : Option Value → mr_h → Prop), mr_wp 46 15 [v0, v1, v2] st h Q = mr_wp 46 19 [v0, v1, v2] st h Q) ∧
    (∀ (v0 v1 v2 : Value) (st : List Value) (h : mr_h) (Q : Option Value → mr_h → Prop), mr_wp 46 18 [v0, v1, v2] st h Q = mr_wp 46 19 [v0, v1, v2] (.int (0) :: st) h Q) ∧
    (∀ (v0 v1 v2 : Value) (x : Int32) (h : mr_h) (Q : Option Value → mr_h → Prop) (hv : x &&& 1 = x), mr_wp 46 19 [v0, v1, v2] [.int x] h Q = Q (some (.int x)) h) :=
  ⟨fun v1 v2 x st h Q => gx_one (i := .aload_n 0) (len := 1) (by decide +kernel) rfl,
   fun v0 v2 x st h Q => gx_one (i := .iload_n 1) (len := 1) (by decide +kernel) rfl,
   fun v0 v1 x st h Q => gx_one (i := .iload_n 2) (len := 1) (by decide +kernel) rfl,
   fun v0 v1 v2 a0 a1 o h Q => gx_virt (x := 182) (n := 2) (by decide +kernel) (by decide +kernel) rfl (Or.inl (Nat.le_of_ble_eq_true rfl)) (by show _ ≤ mr_mxl 47; rw [show mr_mxl 47 = 3 from by decide +kernel]; exact Nat.le_of_ble_eq_true rfl) (by decide +kernel),
   fun v0 v1 v2 x st h Q => gx_br (i := .ifCond .eq 12) (len := 3) (c := .eq) (by decide +kernel) rfl rfl,
   fun v0 v2 x st h Q => gx_one (i := .iload_n 1) (len := 1) (by decide +kernel) rfl,
   fun v0 v1 x st h Q => gx_one (i := .iload_n 2) (len := 1) (by decide +kernel) rfl,
   fun v0 v1 v2 x y st h Q => gx_br (i := .if_icmp .eq 7) (len := 3) (c := .eq) (by decide +kernel) rfl rfl,
   fun v0 v1 v2 st h Q => gx_one (i := .iconst 1) (len := 1) (by decide +kernel) rfl,
   fun v0 v1 v2 st h Q => gx_one (i := .goto 4) (len := 3) (by decide +kernel) rfl,
   fun v0 v1 v2 st h Q => gx_one (i := .iconst 0) (len := 1) (by decide +kernel) rfl,
   fun v0 v1 v2 x h Q hv => gx_ret (i := .ireturn) (len := 1) (by decide +kernel) rfl rfl (by simp only [mr_rt, if_pos]; rw [if_pos (Or.inr ⟨by decide +kernel, hv⟩)])⟩
theorem S_rl_areNodes : (∀ (v1 v2 : Value) (x : Nat) (st : List Value) (h : mr_h) (Q : Option Value → mr_h → Prop), mr_wp 47 0 [.ref x, v1, v2] st h Q = mr_wp 47 1 [.ref x, v1, v2] (.ref x :: st) h Q) ∧
    (∀ (v0 v2 : Value) (x : Int32) (st : List Value) (h : mr_h) (Q : Option Value → mr_h → Prop), mr_wp 47 1 [v0, .int x, v2] st h Q = mr_wp 47 2 [v0, .int x, v2] (.int x :: st) h Q) ∧
    (∀ (v0 v1 v2 : Value) (a0 : Int32) (o : Nat) (h : mr_h) (Q : Option Value → mr_h → Prop), mr_wp 47 2 [v0, v1, v2] [.int a0, .ref o] h Q = mr_rc (h.1 o) 10 (mr_run 44 [.ref o, .int a0] h (fun v h' => mr_wp 47 5 [v0, v1, v2] (v.toList ++ []) h' Q))) ∧
    (∀ (v0 v1 v2 : Value) (x : Int32) (st : List Value) (h : mr_h) (Q : Option Value → mr_h → Prop), mr_wp 47 5 [v0, v1, v2] (.int x :: st) h Q = if x = 0 then mr_wp 47 20 [v0, v1, v2] st h Q else mr_wp 47 8 [v0, v1, v2] st h Q) ∧
    (∀ (v1 v2 : Value) (x : Nat) (st : List Value) (h : mr_h) (Q : Option Value → mr_h → Prop), mr_wp 47 8 [.ref x, v1, v2] st h Q = mr_wp 47 9 [.ref x, v1, v2] (.ref x :: st) h Q) ∧
    (∀ (v0 v1 : Value) (x : Int32) (st : List Value) (h : mr_h) (Q : Option Value → mr_h → Prop), mr_wp 47 9 [v0, v1, .int x] st h Q = mr_wp 47 10 [v0, v1, .int x] (.int x :: st) h Q) ∧
    (∀ (v0 v1 v2 : Value) (a0 : Int32) (o : Nat) (h : mr_h) (Q : Option Value → mr_h → Prop), mr_wp 47 10 [v0, v1, v2] [.int a0, .ref o] h Q = mr_rc (h.1 o) 10 (mr_run 44 [.ref o, .int a0] h (fun v h' => mr_wp 47 13 [v0, v1, v2] (v.toList ++ []) h' Q))) ∧
    (∀ (v0 v1 v2 : Value) (x : Int32) (st : List Value) (h : mr_h) (Q : Option Value → mr_h → Prop), mr_wp 47 13 [v0, v1, v2] (.int x :: st) h Q = if x = 0 then mr_wp 47 20 [v0, v1, v2] st h Q else mr_wp 47 16 [v0, v1, v2] st h Q) ∧
    (∀ (v0 v1 v2 : Value) (st : List Value) (h : mr_h) (Q : Option Value → mr_h → Prop), mr_wp 47 16 [v0, v1, v2] st h Q = mr_wp 47 17 [v0, v1, v2] (.int (1) :: st) h Q) ∧
    (∀ (v0 v1 v2 : Value) (st : List Value) (h : mr_h) (Q : Option Value → mr_h → Prop), mr_wp 47 17 [v0, v1, v2] st h Q = mr_wp 47 21 [v0, v1, v2] st h Q) ∧
    (∀ (v0 v1 v2 : Value) (st : List Value) (h : mr_h) (Q : Option Value → mr_h → Prop), mr_wp 47 20 [v0, v1, v2] st h Q = mr_wp 47 21 [v0, v1, v2] (.int (0) :: st) h Q) ∧
    (∀ (v0 v1 v2 : Value) (x : Int32) (h : mr_h) (Q : Option Value → mr_h → Prop) (hv : x &&& 1 = x), mr_wp 47 21 [v0, v1, v2] [.int x] h Q = Q (some (.int x)) h) :=
  ⟨fun v1 v2 x st h Q => gx_one (i := .aload_n 0) (len := 1) (by decide +kernel) rfl,
   fun v0 v2 x st h Q => gx_one (i := .iload_n 1) (len := 1) (by decide +kernel) rfl,
   fun v0 v1 v2 a0 o h Q => gx_virt (x := 108) (n := 1) (by decide +kernel) (by decide +kernel) rfl (Or.inl (Nat.le_of_ble_eq_true rfl)) (by show _ ≤ mr_mxl 44; rw [show mr_mxl 44 = 2 from by decide +kernel]; exact Nat.le_of_ble_eq_true rfl) (by decide +kernel),
   fun v0 v1 v2 x st h Q => gx_br (i := .ifCond .eq 15) (len := 3) (c := .eq) (by decide +kernel) rfl rfl,
   fun v1 v2 x st h Q => gx_one (i := .aload_n 0) (len := 1) (by decide +kernel) rfl,
   fun v0 v1 x st h Q => gx_one (i := .iload_n 2) (len := 1) (by decide +kernel) rfl,
   fun v0 v1 v2 a0 o h Q => gx_virt (x := 108) (n := 1) (by decide +kernel) (by decide +kernel) rfl (Or.inl (Nat.le_of_ble_eq_true rfl)) (by show _ ≤ mr_mxl 44; rw [show mr_mxl 44 = 2 from by decide +kernel]; exact Nat.le_of_ble_eq_true rfl) (by decide +kernel),
   fun v0 v1 v2 x st h Q => gx_br (i := .ifCond .eq 7) (len := 3) (c := .eq) (by decide +kernel) rfl rfl,
   fun v0 v1 v2 st h Q => gx_one (i := .iconst 1) (len := 1) (by decide +kernel) rfl,
   fun v0 v1 v2 st h Q => gx_one (i := .goto 4) (len := 3) (by decide +kernel) rfl,
   fun v0 v1 v2 st h Q => gx_one (i := .iconst 0) (len := 1) (by decide +kernel) rfl,
   fun v0 v1 v2 x h Q hv => gx_ret (i := .ireturn) (len := 1) (by decide +kernel) rfl rfl (by simp only [mr_rt, if_pos]; rw [if_pos (Or.inr ⟨by decide +kernel, hv⟩)])⟩
-- switch rl_now 1
set_option maxRecDepth 10000 in
theorem s_rl_now_1 (v0 v1 : Value) (x : Int32) (st : List Value) (h : mr_h) (Q : Option Value → mr_h → Prop) : mr_wp 48 1 [v0, v1] (.int x :: st) h Q = if x = 0 then mr_wp 48 48 [v0, v1] st h Q else if x = 1 then mr_wp 48 56 [v0, v1] st h Q else if x = 2 then mr_wp 48 64 [v0, v1] st h Q else if x = 3 then mr_wp 48 72 [v0, v1] st h Q else if x = 4 then mr_wp 48 80 [v0, v1] st h Q else if x = 5 then mr_wp 48 92 [v0, v1] st h Q else if x = 6 then mr_wp 48 100 [v0, v1] st h Q else if x = 7 then mr_wp 48 108 [v0, v1] st h Q else mr_wp 48 116 [v0, v1] st h Q := by
  by_cases e0 : x = 0
  · subst e0
    rw [if_pos rfl]
    exact gx_one (i := .tableswitch 115 0 7 #[47, 55, 63, 71, 79, 91, 99, 107]) (len := 47) (by decide +kernel) rfl
  rw [if_neg e0]
  by_cases e1 : x = 1
  · subst e1
    rw [if_pos rfl]
    exact gx_one (i := .tableswitch 115 0 7 #[47, 55, 63, 71, 79, 91, 99, 107]) (len := 47) (by decide +kernel) rfl
  rw [if_neg e1]
  by_cases e2 : x = 2
  · subst e2
    rw [if_pos rfl]
    exact gx_one (i := .tableswitch 115 0 7 #[47, 55, 63, 71, 79, 91, 99, 107]) (len := 47) (by decide +kernel) rfl
  rw [if_neg e2]
  by_cases e3 : x = 3
  · subst e3
    rw [if_pos rfl]
    exact gx_one (i := .tableswitch 115 0 7 #[47, 55, 63, 71, 79, 91, 99, 107]) (len := 47) (by decide +kernel) rfl
  rw [if_neg e3]
  by_cases e4 : x = 4
  · subst e4
    rw [if_pos rfl]
    exact gx_one (i := .tableswitch 115 0 7 #[47, 55, 63, 71, 79, 91, 99, 107]) (len := 47) (by decide +kernel) rfl
  rw [if_neg e4]
  by_cases e5 : x = 5
  · subst e5
    rw [if_pos rfl]
    exact gx_one (i := .tableswitch 115 0 7 #[47, 55, 63, 71, 79, 91, 99, 107]) (len := 47) (by decide +kernel) rfl
  rw [if_neg e5]
  by_cases e6 : x = 6
  · subst e6
    rw [if_pos rfl]
    exact gx_one (i := .tableswitch 115 0 7 #[47, 55, 63, 71, 79, 91, 99, 107]) (len := 47) (by decide +kernel) rfl
  rw [if_neg e6]
  by_cases e7 : x = 7
  · subst e7
    rw [if_pos rfl]
    exact gx_one (i := .tableswitch 115 0 7 #[47, 55, 63, 71, 79, 91, 99, 107]) (len := 47) (by decide +kernel) rfl
  rw [if_neg e7]
  have hx : x.toInt < 0 ∨ 7 < x.toInt := mr_swd (fun j h1 h2 => by
    have hj : j = 0 ∨ j = 1 ∨ j = 2 ∨ j = 3 ∨ j = 4 ∨ j = 5 ∨ j = 6 ∨ j = 7 := by omega
    rcases hj with rfl | rfl | rfl | rfl | rfl | rfl | rfl | rfl
    · exact e0
    · exact e1
    · exact e2
    · exact e3
    · exact e4
    · exact e5
    · exact e6
    · exact e7)
  exact gx_one (i := .tableswitch 115 0 7 #[47, 55, 63, 71, 79, 91, 99, 107]) (len := 47) (by decide +kernel) (by simp only [mr_one]; rw [if_pos hx]; rfl)

theorem S_rl_now : (∀ (v0 : Value) (x : Int32) (st : List Value) (h : mr_h) (Q : Option Value → mr_h → Prop), mr_wp 48 0 [v0, .int x] st h Q = mr_wp 48 1 [v0, .int x] (.int x :: st) h Q) ∧
    (∀ (v1 : Value) (x : Nat) (st : List Value) (h : mr_h) (Q : Option Value → mr_h → Prop), mr_wp 48 48 [.ref x, v1] st h Q = mr_wp 48 49 [.ref x, v1] (.ref x :: st) h Q) ∧
    (∀ (v0 v1 : Value) (a : Nat) (st : List Value) (h : mr_h) (Q : Option Value → mr_h → Prop), mr_wp 48 49 [v0, v1] (.ref a :: st) h Q = mr_gf (h.1 a) 10 0 (fun v => mr_wp 48 52 [v0, v1] (v :: st) h Q)) ∧
    (∀ (v0 v1 : Value) (o : Nat) (h : mr_h) (Q : Option Value → mr_h → Prop), mr_wp 48 52 [v0, v1] [.ref o] h Q = mr_rc (h.1 o) 3 (mr_run 49 [.ref o] h (fun v h' => mr_wp 48 55 [v0, v1] (v.toList ++ []) h' Q))) ∧
    (∀ (v0 v1 : Value) (x : Int32) (h : mr_h) (Q : Option Value → mr_h → Prop), mr_wp 48 55 [v0, v1] [.int x] h Q = Q (some (.int x)) h) ∧
    (∀ (v1 : Value) (x : Nat) (st : List Value) (h : mr_h) (Q : Option Value → mr_h → Prop), mr_wp 48 56 [.ref x, v1] st h Q = mr_wp 48 57 [.ref x, v1] (.ref x :: st) h Q) ∧
    (∀ (v0 v1 : Value) (a : Nat) (st : List Value) (h : mr_h) (Q : Option Value → mr_h → Prop), mr_wp 48 57 [v0, v1] (.ref a :: st) h Q = mr_gf (h.1 a) 10 3 (fun v => mr_wp 48 60 [v0, v1] (v :: st) h Q)) ∧
    (∀ (v0 v1 : Value) (o : Nat) (h : mr_h) (Q : Option Value → mr_h → Prop), mr_wp 48 60 [v0, v1] [.ref o] h Q = mr_rc (h.1 o) 6 (mr_run 51 [.ref o] h (fun v h' => mr_wp 48 63 [v0, v1] (v.toList ++ []) h' Q))) ∧
    (∀ (v0 v1 : Value) (x : Int32) (h : mr_h) (Q : Option Value → mr_h → Prop), mr_wp 48 63 [v0, v1] [.int x] h Q = Q (some (.int x)) h) ∧
    (∀ (v1 : Value) (x : Nat) (st : List Value) (h : mr_h) (Q : Option Value → mr_h → Prop), mr_wp 48 64 [.ref x, v1] st h Q = mr_wp 48 65 [.ref x, v1] (.ref x :: st) h Q) ∧
    (∀ (v0 v1 : Value) (a : Nat) (st : List Value) (h : mr_h) (Q : Option Value → mr_h → Prop), mr_wp 48 65 [v0, v1] (.ref a :: st) h Q = mr_gf (h.1 a) 10 3 (fun v => mr_wp 48 68 [v0, v1] (v :: st) h Q)) ∧
    (∀ (v0 v1 : Value) (o : Nat) (h : mr_h) (Q : Option Value → mr_h → Prop), mr_wp 48 68 [v0, v1] [.ref o] h Q = mr_rc (h.1 o) 6 (mr_run 52 [.ref o] h (fun v h' => mr_wp 48 71 [v0, v1] (v.toList ++ []) h' Q))) ∧
    (∀ (v0 v1 : Value) (x : Int32) (h : mr_h) (Q : Option Value → mr_h → Prop), mr_wp 48 71 [v0, v1] [.int x] h Q = Q (some (.int x)) h) ∧
    (∀ (v1 : Value) (x : Nat) (st : List Value) (h : mr_h) (Q : Option Value → mr_h → Prop), mr_wp 48 72 [.ref x, v1] st h Q = mr_wp 48 73 [.ref x, v1] (.ref x :: st) h Q) ∧
    (∀ (v0 v1 : Value) (a : Nat) (st : List Value) (h : mr_h) (Q : Option Value → mr_h → Prop), mr_wp 48 73 [v0, v1] (.ref a :: st) h Q = mr_gf (h.1 a) 10 3 (fun v => mr_wp 48 76 [v0, v1] (v :: st) h Q)) ∧
    (∀ (v0 v1 : Value) (o : Nat) (h : mr_h) (Q : Option Value → mr_h → Prop), mr_wp 48 76 [v0, v1] [.ref o] h Q = mr_rc (h.1 o) 6 (mr_run 53 [.ref o] h (fun v h' => mr_wp 48 79 [v0, v1] (v.toList ++ []) h' Q))) ∧
    (∀ (v0 v1 : Value) (x : Int32) (h : mr_h) (Q : Option Value → mr_h → Prop), mr_wp 48 79 [v0, v1] [.int x] h Q = Q (some (.int x)) h) ∧
    (∀ (v1 : Value) (x : Nat) (st : List Value) (h : mr_h) (Q : Option Value → mr_h → Prop), mr_wp 48 80 [.ref x, v1] st h Q = mr_wp 48 81 [.ref x, v1] (.ref x :: st) h Q) ∧
    (∀ (v0 v1 : Value) (a : Nat) (st : List Value) (h : mr_h) (Q : Option Value → mr_h → Prop), mr_wp 48 81 [v0, v1] (.ref a :: st) h Q = mr_gf (h.1 a) 10 6 (fun v => mr_wp 48 84 [v0, v1] (v :: st) h Q)) ∧
    (∀ (v1 : Value) (x : Nat) (st : List Value) (h : mr_h) (Q : Option Value → mr_h → Prop), mr_wp 48 84 [.ref x, v1] st h Q = mr_wp 48 85 [.ref x, v1] (.ref x :: st) h Q) ∧
    (∀ (v0 v1 : Value) (a : Nat) (st : List Value) (h : mr_h) (Q : Option Value → mr_h → Prop), mr_wp 48 85 [v0, v1] (.ref a :: st) h Q = mr_gf (h.1 a) 10 0 (fun v => mr_wp 48 88 [v0, v1] (v :: st) h Q)) ∧
    (∀ (v0 v1 : Value) (a0 : Nat) (o : Nat) (h : mr_h) (Q : Option Value → mr_h → Prop), mr_wp 48 88 [v0, v1] [.ref a0, .ref o] h Q = mr_rc (h.1 o) 2 (mr_run 55 [.ref o, .ref a0] h (fun v h' => mr_wp 48 91 [v0, v1] (v.toList ++ []) h' Q))) ∧
    (∀ (v0 v1 : Value) (x : Int32) (h : mr_h) (Q : Option Value → mr_h → Prop), mr_wp 48 91 [v0, v1] [.int x] h Q = Q (some (.int x)) h) ∧
    (∀ (v1 : Value) (x : Nat) (st : List Value) (h : mr_h) (Q : Option Value → mr_h → Prop), mr_wp 48 92 [.ref x, v1] st h Q = mr_wp 48 93 [.ref x, v1] (.ref x :: st) h Q) ∧
    (∀ (v0 v1 : Value) (a : Nat) (st : List Value) (h : mr_h) (Q : Option Value → mr_h → Prop), mr_wp 48 93 [v0, v1] (.ref a :: st) h Q = mr_gf (h.1 a) 10 3 (fun v => mr_wp 48 96 [v0, v1] (v :: st) h Q)) ∧
    (∀ (v0 v1 : Value) (o : Nat) (h : mr_h) (Q : Option Value → mr_h → Prop), mr_wp 48 96 [v0, v1] [.ref o] h Q = mr_rc (h.1 o) 6 (mr_run 58 [.ref o] h (fun v h' => mr_wp 48 99 [v0, v1] (v.toList ++ []) h' Q))) ∧
    (∀ (v0 v1 : Value) (x : Int32) (h : mr_h) (Q : Option Value → mr_h → Prop), mr_wp 48 99 [v0, v1] [.int x] h Q = Q (some (.int x)) h) ∧
    (∀ (v1 : Value) (x : Nat) (st : List Value) (h : mr_h) (Q : Option Value → mr_h → Prop), mr_wp 48 100 [.ref x, v1] st h Q = mr_wp 48 101 [.ref x, v1] (.ref x :: st) h Q) ∧
    (∀ (v0 v1 : Value) (a : Nat) (st : List Value) (h : mr_h) (Q : Option Value → mr_h → Prop), mr_wp 48 101 [v0, v1] (.ref a :: st) h Q = mr_gf (h.1 a) 10 3 (fun v => mr_wp 48 104 [v0, v1] (v :: st) h Q)) ∧
    (∀ (v0 v1 : Value) (o : Nat) (h : mr_h) (Q : Option Value → mr_h → Prop), mr_wp 48 104 [v0, v1] [.ref o] h Q = mr_rc (h.1 o) 6 (mr_run 60 [.ref o] h (fun v h' => mr_wp 48 107 [v0, v1] (v.toList ++ []) h' Q))) ∧
    (∀ (v0 v1 : Value) (x : Int32) (h : mr_h) (Q : Option Value → mr_h → Prop), mr_wp 48 107 [v0, v1] [.int x] h Q = Q (some (.int x)) h) ∧
    (∀ (v1 : Value) (x : Nat) (st : List Value) (h : mr_h) (Q : Option Value → mr_h → Prop), mr_wp 48 108 [.ref x, v1] st h Q = mr_wp 48 109 [.ref x, v1] (.ref x :: st) h Q) ∧
    (∀ (v0 v1 : Value) (a : Nat) (st : List Value) (h : mr_h) (Q : Option Value → mr_h → Prop), mr_wp 48 109 [v0, v1] (.ref a :: st) h Q = mr_gf (h.1 a) 10 9 (fun v => mr_wp 48 112 [v0, v1] (v :: st) h Q)) ∧
    (∀ (v0 v1 : Value) (a : Nat) (st : List Value) (h : mr_h) (Q : Option Value → mr_h → Prop), mr_wp 48 112 [v0, v1] (.ref a :: st) h Q = mr_gf (h.1 a) 4 0 (fun v => mr_wp 48 115 [v0, v1] (v :: st) h Q)) ∧
    (∀ (v0 v1 : Value) (x : Int32) (h : mr_h) (Q : Option Value → mr_h → Prop), mr_wp 48 115 [v0, v1] [.int x] h Q = Q (some (.int x)) h) ∧
    (∀ (v0 v1 : Value) (st : List Value) (h : mr_h) (Q : Option Value → mr_h → Prop), mr_wp 48 116 [v0, v1] st h Q = mr_wp 48 117 [v0, v1] (.int (-1) :: st) h Q) ∧
    (∀ (v0 v1 : Value) (x : Int32) (h : mr_h) (Q : Option Value → mr_h → Prop), mr_wp 48 117 [v0, v1] [.int x] h Q = Q (some (.int x)) h) :=
  ⟨fun v0 x st h Q => gx_one (i := .iload_n 1) (len := 1) (by decide +kernel) rfl,
   fun v1 x st h Q => gx_one (i := .aload_n 0) (len := 1) (by decide +kernel) rfl,
   fun v0 v1 a st h Q => gx_get (x := 10) (by decide +kernel) (by decide +kernel),
   fun v0 v1 o h Q => gx_virt (x := 141) (n := 0) (by decide +kernel) (by decide +kernel) rfl (Or.inl (Nat.le_of_ble_eq_true rfl)) (by show _ ≤ mr_mxl 49; rw [show mr_mxl 49 = 3 from by decide +kernel]; exact Nat.le_of_ble_eq_true rfl) (by decide +kernel),
   fun v0 v1 x h Q => gx_ret (i := .ireturn) (len := 1) (by decide +kernel) rfl rfl (by simp only [mr_rt, if_pos]; rw [if_pos (Or.inl (by decide +kernel))]),
   fun v1 x st h Q => gx_one (i := .aload_n 0) (len := 1) (by decide +kernel) rfl,
   fun v0 v1 a st h Q => gx_get (x := 29) (by decide +kernel) (by decide +kernel),
   fun v0 v1 o h Q => gx_virt (x := 145) (n := 0) (by decide +kernel) (by decide +kernel) rfl (Or.inl (Nat.le_of_ble_eq_true rfl)) (by show _ ≤ mr_mxl 51; rw [show mr_mxl 51 = 1 from by decide +kernel]; exact Nat.le_of_ble_eq_true rfl) (by decide +kernel),
   fun v0 v1 x h Q => gx_ret (i := .ireturn) (len := 1) (by decide +kernel) rfl rfl (by simp only [mr_rt, if_pos]; rw [if_pos (Or.inl (by decide +kernel))]),
   fun v1 x st h Q => gx_one (i := .aload_n 0) (len := 1) (by decide +kernel) rfl,
   fun v0 v1 a st h Q => gx_get (x := 29) (by decide +kernel) (by decide +kernel),
   fun v0 v1 o h Q => gx_virt (x := 148) (n := 0) (by decide +kernel) (by decide +kernel) rfl (Or.inl (Nat.le_of_ble_eq_true rfl)) (by show _ ≤ mr_mxl 52; rw [show mr_mxl 52 = 3 from by decide +kernel]; exact Nat.le_of_ble_eq_true rfl) (by decide +kernel),
   fun v0 v1 x h Q => gx_ret (i := .ireturn) (len := 1) (by decide +kernel) rfl rfl (by simp only [mr_rt, if_pos]; rw [if_pos (Or.inl (by decide +kernel))]),
   fun v1 x st h Q => gx_one (i := .aload_n 0) (len := 1) (by decide +kernel) rfl,
   fun v0 v1 a st h Q => gx_get (x := 29) (by decide +kernel) (by decide +kernel),
   fun v0 v1 o h Q => gx_virt (x := 151) (n := 0) (by decide +kernel) (by decide +kernel) rfl (Or.inl (Nat.le_of_ble_eq_true rfl)) (by show _ ≤ mr_mxl 53; rw [show mr_mxl 53 = 1 from by decide +kernel]; exact Nat.le_of_ble_eq_true rfl) (by decide +kernel),
   fun v0 v1 x h Q => gx_ret (i := .ireturn) (len := 1) (by decide +kernel) rfl rfl (by simp only [mr_rt, if_pos]; rw [if_pos (Or.inl (by decide +kernel))]),
   fun v1 x st h Q => gx_one (i := .aload_n 0) (len := 1) (by decide +kernel) rfl,
   fun v0 v1 a st h Q => gx_get (x := 50) (by decide +kernel) (by decide +kernel),
   fun v1 x st h Q => gx_one (i := .aload_n 0) (len := 1) (by decide +kernel) rfl,
   fun v0 v1 a st h Q => gx_get (x := 10) (by decide +kernel) (by decide +kernel),
   fun v0 v1 a0 o h Q => gx_virt (x := 154) (n := 1) (by decide +kernel) (by decide +kernel) rfl (Or.inl (Nat.le_of_ble_eq_true rfl)) (by show _ ≤ mr_mxl 55; rw [show mr_mxl 55 = 5 from by decide +kernel]; exact Nat.le_of_ble_eq_true rfl) (by decide +kernel),
   fun v0 v1 x h Q => gx_ret (i := .ireturn) (len := 1) (by decide +kernel) rfl rfl (by simp only [mr_rt, if_pos]; rw [if_pos (Or.inl (by decide +kernel))]),
   fun v1 x st h Q => gx_one (i := .aload_n 0) (len := 1) (by decide +kernel) rfl,
   fun v0 v1 a st h Q => gx_get (x := 29) (by decide +kernel) (by decide +kernel),
   fun v0 v1 o h Q => gx_virt (x := 157) (n := 0) (by decide +kernel) (by decide +kernel) rfl (Or.inl (Nat.le_of_ble_eq_true rfl)) (by show _ ≤ mr_mxl 58; rw [show mr_mxl 58 = 4 from by decide +kernel]; exact Nat.le_of_ble_eq_true rfl) (by decide +kernel),
   fun v0 v1 x h Q => gx_ret (i := .ireturn) (len := 1) (by decide +kernel) rfl rfl (by simp only [mr_rt, if_pos]; rw [if_pos (Or.inl (by decide +kernel))]),
   fun v1 x st h Q => gx_one (i := .aload_n 0) (len := 1) (by decide +kernel) rfl,
   fun v0 v1 a st h Q => gx_get (x := 29) (by decide +kernel) (by decide +kernel),
   fun v0 v1 o h Q => gx_virt (x := 160) (n := 0) (by decide +kernel) (by decide +kernel) rfl (Or.inl (Nat.le_of_ble_eq_true rfl)) (by show _ ≤ mr_mxl 60; rw [show mr_mxl 60 = 4 from by decide +kernel]; exact Nat.le_of_ble_eq_true rfl) (by decide +kernel),
   fun v0 v1 x h Q => gx_ret (i := .ireturn) (len := 1) (by decide +kernel) rfl rfl (by simp only [mr_rt, if_pos]; rw [if_pos (Or.inl (by decide +kernel))]),
   fun v1 x st h Q => gx_one (i := .aload_n 0) (len := 1) (by decide +kernel) rfl,
   fun v0 v1 a st h Q => gx_get (x := 71) (by decide +kernel) (by decide +kernel),
   fun v0 v1 a st h Q => gx_get (x := 104) (by decide +kernel) (by decide +kernel),
   fun v0 v1 x h Q => gx_ret (i := .ireturn) (len := 1) (by decide +kernel) rfl rfl (by simp only [mr_rt, if_pos]; rw [if_pos (Or.inl (by decide +kernel))]),
   fun v0 v1 st h Q => gx_one (i := .iconst (-1)) (len := 1) (by decide +kernel) rfl,
   fun v0 v1 x h Q => gx_ret (i := .ireturn) (len := 1) (by decide +kernel) rfl rfl (by simp only [mr_rt, if_pos]; rw [if_pos (Or.inl (by decide +kernel))])⟩
theorem s_ne_edgeCount_4 (v0 v1 : Value) (x : Int32) (st : List Value) (h : mr_h) (Q : Option Value → mr_h → Prop) : mr_wp 49 4 [v0, v1, .int x] st h Q = mr_wp 49 5 [v0, v1, .int x] (.int x :: st) h Q := gx_one (i := .iload_n 2) (len := 1) (by decide +kernel) rfl
theorem S_ne_edgeCount : (∀ (v0 v1 v2 : Value) (st : List Value) (h : mr_h) (Q : Option Value → mr_h → Prop), mr_wp 49 0 [v0, v1, v2] st h Q = mr_wp 49 1 [v0, v1, v2] (.int (0) :: st) h Q) ∧
    (∀ (v1 v2 : Value) (w0 : Nat) (x : Int32) (st : List Value) (h : mr_h) (Q : Option Value → mr_h → Prop), mr_wp 49 1 [.ref w0, v1, v2] (.int x :: st) h Q = mr_wp 49 2 [.ref w0, .int x, v2] st h Q) ∧
    (∀ (v0 v1 v2 : Value) (st : List Value) (h : mr_h) (Q : Option Value → mr_h → Prop), mr_wp 49 2 [v0, v1, v2] st h Q = mr_wp 49 3 [v0, v1, v2] (.int (0) :: st) h Q) ∧
    (∀ (v0 v2 : Value) (w1 : Int32) (x : Int32) (st : List Value) (h : mr_h) (Q : Option Value → mr_h → Prop), mr_wp 49 3 [v0, .int w1, v2] (.int x :: st) h Q = mr_wp 49 4 [v0, .int w1, .int x] st h Q) ∧
    (∀ (v1 v2 : Value) (x : Nat) (st : List Value) (h : mr_h) (Q : Option Value → mr_h → Prop), mr_wp 49 5 [.ref x, v1, v2] st h Q = mr_wp 49 6 [.ref x, v1, v2] (.ref x :: st) h Q) ∧
    (∀ (v0 v1 v2 : Value) (a : Nat) (st : List Value) (h : mr_h) (Q : Option Value → mr_h → Prop), mr_wp 49 6 [v0, v1, v2] (.ref a :: st) h Q = mr_gf (h.1 a) 3 0 (fun v => mr_wp 49 9 [v0, v1, v2] (v :: st) h Q)) ∧
    (∀ (v0 v1 v2 : Value) (x : Int32) (y : Int32) (st : List Value) (h : mr_h) (Q : Option Value → mr_h → Prop), mr_wp 49 9 [v0, v1, v2] (.int y :: .int x :: st) h Q = if y ≤ x then mr_wp 49 30 [v0, v1, v2] st h Q else mr_wp 49 12 [v0, v1, v2] st h Q) ∧
    (∀ (v0 v2 : Value) (x : Int32) (st : List Value) (h : mr_h) (Q : Option Value → mr_h → Prop), mr_wp 49 12 [v0, .int x, v2] st h Q = mr_wp 49 13 [v0, .int x, v2] (.int x :: st) h Q) ∧
    (∀ (v1 v2 : Value) (x : Nat) (st : List Value) (h : mr_h) (Q : Option Value → mr_h → Prop), mr_wp 49 13 [.ref x, v1, v2] st h Q = mr_wp 49 14 [.ref x, v1, v2] (.ref x :: st) h Q) ∧
    (∀ (v0 v1 v2 : Value) (a : Nat) (st : List Value) (h : mr_h) (Q : Option Value → mr_h → Prop), mr_wp 49 14 [v0, v1, v2] (.ref a :: st) h Q = mr_gf (h.1 a) 3 1 (fun v => mr_wp 49 17 [v0, v1, v2] (v :: st) h Q)) ∧
    (∀ (v0 v1 : Value) (x : Int32) (st : List Value) (h : mr_h) (Q : Option Value → mr_h → Prop), mr_wp 49 17 [v0, v1, .int x] st h Q = mr_wp 49 18 [v0, v1, .int x] (.int x :: st) h Q) ∧
    (∀ (v0 v1 v2 : Value) (a : Nat) (x : Int32) (st : List Value) (h : mr_h) (Q : Option Value → mr_h → Prop), mr_wp 49 18 [v0, v1, v2] (.int x :: .ref a :: st) h Q = mr_ai (h.1 a) x (fun v => mr_wp 49 19 [v0, v1, v2] (.int v :: st) h Q)) ∧
    (∀ (v0 v1 v2 : Value) (a0 : Int32) (r0 : Value) (h : mr_h) (Q : Option Value → mr_h → Prop), mr_wp 49 19 [v0, v1, v2] [.int a0, r0] h Q = mr_run 50 [.int a0] h (fun v h' => mr_wp 49 22 [v0, v1, v2] (v.toList ++ [r0]) h' Q)) ∧
    (∀ (v0 v1 v2 : Value) (x : Int32) (y : Int32) (st : List Value) (h : mr_h) (Q : Option Value → mr_h → Prop), mr_wp 49 22 [v0, v1, v2] (.int y :: .int x :: st) h Q = mr_wp 49 23 [v0, v1, v2] (.int (x + y) :: st) h Q) ∧
    (∀ (v1 v2 : Value) (w0 : Nat) (x : Int32) (st : List Value) (h : mr_h) (Q : Option Value → mr_h → Prop), mr_wp 49 23 [.ref w0, v1, v2] (.int x :: st) h Q = mr_wp 49 24 [.ref w0, .int x, v2] st h Q) ∧
    (∀ (v0 : Value) (x : Int32) (w1 : Int32) (st : List Value) (h : mr_h) (Q : Option Value → mr_h → Prop), mr_wp 49 24 [v0, .int w1, .int x] st h Q = mr_wp 49 27 [v0, .int w1, .int (x + (1))] st h Q) ∧
    (∀ (v0 v1 v2 : Value) (st : List Value) (h : mr_h) (Q : Option Value → mr_h → Prop), mr_wp 49 27 [v0, v1, v2] st h Q = mr_wp 49 4 [v0, v1, v2] st h Q) ∧
    (∀ (v0 v2 : Value) (x : Int32) (st : List Value) (h : mr_h) (Q : Option Value → mr_h → Prop), mr_wp 49 30 [v0, .int x, v2] st h Q = mr_wp 49 31 [v0, .int x, v2] (.int x :: st) h Q) ∧
    (∀ (v0 v1 v2 : Value) (x : Int32) (h : mr_h) (Q : Option Value → mr_h → Prop), mr_wp 49 31 [v0, v1, v2] [.int x] h Q = Q (some (.int x)) h) :=
  ⟨fun v0 v1 v2 st h Q => gx_one (i := .iconst 0) (len := 1) (by decide +kernel) rfl,
   fun v1 v2 w0 x st h Q => gx_one (i := .istore_n 1) (len := 1) (by decide +kernel) rfl,
   fun v0 v1 v2 st h Q => gx_one (i := .iconst 0) (len := 1) (by decide +kernel) rfl,
   fun v0 v2 w1 x st h Q => gx_one (i := .istore_n 2) (len := 1) (by decide +kernel) rfl,
   fun v1 v2 x st h Q => gx_one (i := .aload_n 0) (len := 1) (by decide +kernel) rfl,
   fun v0 v1 v2 a st h Q => gx_get (x := 25) (by decide +kernel) (by decide +kernel),
   fun v0 v1 v2 x y st h Q => gx_br (i := .if_icmp .ge 21) (len := 3) (c := .ge) (by decide +kernel) rfl rfl,
   fun v0 v2 x st h Q => gx_one (i := .iload_n 1) (len := 1) (by decide +kernel) rfl,
   fun v1 v2 x st h Q => gx_one (i := .aload_n 0) (len := 1) (by decide +kernel) rfl,
   fun v0 v1 v2 a st h Q => gx_get (x := 9) (by decide +kernel) (by decide +kernel),
   fun v0 v1 x st h Q => gx_one (i := .iload_n 2) (len := 1) (by decide +kernel) rfl,
   fun v0 v1 v2 a x st h Q => gx_iald (by decide +kernel),
   fun v0 v1 v2 a0 r0 h Q => gx_stat (x := 43) (t := 50) (n := 1) (by decide +kernel) (by decide +kernel) (by decide) (by decide +kernel) rfl (Or.inl (Nat.le_of_ble_eq_true rfl)) (by show _ ≤ mr_mxl 50; rw [show mr_mxl 50 = 1 from by decide +kernel]; exact Nat.le_of_ble_eq_true rfl),
   fun v0 v1 v2 x y st h Q => gx_one (i := .iadd) (len := 1) (by decide +kernel) rfl,
   fun v1 v2 w0 x st h Q => gx_one (i := .istore_n 1) (len := 1) (by decide +kernel) rfl,
   fun v0 x w1 st h Q => gx_one (i := .iinc 2 1) (len := 3) (by decide +kernel) rfl,
   fun v0 v1 v2 st h Q => gx_one (i := .goto (-23)) (len := 3) (by decide +kernel) rfl,
   fun v0 v2 x st h Q => gx_one (i := .iload_n 1) (len := 1) (by decide +kernel) rfl,
   fun v0 v1 v2 x h Q => gx_ret (i := .ireturn) (len := 1) (by decide +kernel) rfl rfl (by simp only [mr_rt, if_pos]; rw [if_pos (Or.inl (by decide +kernel))])⟩
theorem S_in_bitCount_0 : (∀ (x : Int32) (st : List Value) (h : mr_h) (Q : Option Value → mr_h → Prop), mr_wp 50 0 [.int x] st h Q = mr_wp 50 1 [.int x] (.int x :: st) h Q) ∧
    (∀ (x : Int32) (st : List Value) (h : mr_h) (Q : Option Value → mr_h → Prop), mr_wp 50 1 [.int x] st h Q = mr_wp 50 2 [.int x] (.int x :: st) h Q) ∧
    (∀ (v0 : Value) (st : List Value) (h : mr_h) (Q : Option Value → mr_h → Prop), mr_wp 50 2 [v0] st h Q = mr_wp 50 3 [v0] (.int (1) :: st) h Q) ∧
    (∀ (v0 : Value) (x : Int32) (y : Int32) (st : List Value) (h : mr_h) (Q : Option Value → mr_h → Prop), mr_wp 50 3 [v0] (.int y :: .int x :: st) h Q = mr_wp 50 4 [v0] (.int ((x.toUInt32 >>> (y.toUInt32 &&& Int32.toUInt32 31)).toInt32) :: st) h Q) ∧
    (∀ (v0 : Value) (st : List Value) (h : mr_h) (Q : Option Value → mr_h → Prop), mr_wp 50 4 [v0] st h Q = mr_wp 50 7 [v0] (.int (1431655765) :: st) h Q) ∧
    (∀ (v0 : Value) (x : Int32) (y : Int32) (st : List Value) (h : mr_h) (Q : Option Value → mr_h → Prop), mr_wp 50 7 [v0] (.int y :: .int x :: st) h Q = mr_wp 50 8 [v0] (.int (x &&& y) :: st) h Q) ∧
    (∀ (v0 : Value) (x : Int32) (y : Int32) (st : List Value) (h : mr_h) (Q : Option Value → mr_h → Prop), mr_wp 50 8 [v0] (.int y :: .int x :: st) h Q = mr_wp 50 9 [v0] (.int (x - y) :: st) h Q) ∧
    (∀ (v0 : Value) (x : Int32) (st : List Value) (h : mr_h) (Q : Option Value → mr_h → Prop), mr_wp 50 9 [v0] (.int x :: st) h Q = mr_wp 50 10 [.int x] st h Q) ∧
    (∀ (x : Int32) (st : List Value) (h : mr_h) (Q : Option Value → mr_h → Prop), mr_wp 50 10 [.int x] st h Q = mr_wp 50 11 [.int x] (.int x :: st) h Q) ∧
    (∀ (v0 : Value) (st : List Value) (h : mr_h) (Q : Option Value → mr_h → Prop), mr_wp 50 11 [v0] st h Q = mr_wp 50 14 [v0] (.int (858993459) :: st) h Q) ∧
    (∀ (v0 : Value) (x : Int32) (y : Int32) (st : List Value) (h : mr_h) (Q : Option Value → mr_h → Prop), mr_wp 50 14 [v0] (.int y :: .int x :: st) h Q = mr_wp 50 15 [v0] (.int (x &&& y) :: st) h Q) ∧
    (∀ (x : Int32) (st : List Value) (h : mr_h) (Q : Option Value → mr_h → Prop), mr_wp 50 15 [.int x] st h Q = mr_wp 50 16 [.int x] (.int x :: st) h Q) ∧
    (∀ (v0 : Value) (st : List Value) (h : mr_h) (Q : Option Value → mr_h → Prop), mr_wp 50 16 [v0] st h Q = mr_wp 50 17 [v0] (.int (2) :: st) h Q) ∧
    (∀ (v0 : Value) (x : Int32) (y : Int32) (st : List Value) (h : mr_h) (Q : Option Value → mr_h → Prop), mr_wp 50 17 [v0] (.int y :: .int x :: st) h Q = mr_wp 50 18 [v0] (.int ((x.toUInt32 >>> (y.toUInt32 &&& Int32.toUInt32 31)).toInt32) :: st) h Q) ∧
    (∀ (v0 : Value) (st : List Value) (h : mr_h) (Q : Option Value → mr_h → Prop), mr_wp 50 18 [v0] st h Q = mr_wp 50 21 [v0] (.int (858993459) :: st) h Q) ∧
    (∀ (v0 : Value) (x : Int32) (y : Int32) (st : List Value) (h : mr_h) (Q : Option Value → mr_h → Prop), mr_wp 50 21 [v0] (.int y :: .int x :: st) h Q = mr_wp 50 22 [v0] (.int (x &&& y) :: st) h Q) ∧
    (∀ (v0 : Value) (x : Int32) (y : Int32) (st : List Value) (h : mr_h) (Q : Option Value → mr_h → Prop), mr_wp 50 22 [v0] (.int y :: .int x :: st) h Q = mr_wp 50 23 [v0] (.int (x + y) :: st) h Q) ∧
    (∀ (v0 : Value) (x : Int32) (st : List Value) (h : mr_h) (Q : Option Value → mr_h → Prop), mr_wp 50 23 [v0] (.int x :: st) h Q = mr_wp 50 24 [.int x] st h Q) ∧
    (∀ (x : Int32) (st : List Value) (h : mr_h) (Q : Option Value → mr_h → Prop), mr_wp 50 24 [.int x] st h Q = mr_wp 50 25 [.int x] (.int x :: st) h Q) ∧
    (∀ (x : Int32) (st : List Value) (h : mr_h) (Q : Option Value → mr_h → Prop), mr_wp 50 25 [.int x] st h Q = mr_wp 50 26 [.int x] (.int x :: st) h Q) ∧
    (∀ (v0 : Value) (st : List Value) (h : mr_h) (Q : Option Value → mr_h → Prop), mr_wp 50 26 [v0] st h Q = mr_wp 50 27 [v0] (.int (4) :: st) h Q) ∧
    (∀ (v0 : Value) (x : Int32) (y : Int32) (st : List Value) (h : mr_h) (Q : Option Value → mr_h → Prop), mr_wp 50 27 [v0] (.int y :: .int x :: st) h Q = mr_wp 50 28 [v0] (.int ((x.toUInt32 >>> (y.toUInt32 &&& Int32.toUInt32 31)).toInt32) :: st) h Q) ∧
    (∀ (v0 : Value) (x : Int32) (y : Int32) (st : List Value) (h : mr_h) (Q : Option Value → mr_h → Prop), mr_wp 50 28 [v0] (.int y :: .int x :: st) h Q = mr_wp 50 29 [v0] (.int (x + y) :: st) h Q) ∧
    (∀ (v0 : Value) (st : List Value) (h : mr_h) (Q : Option Value → mr_h → Prop), mr_wp 50 29 [v0] st h Q = mr_wp 50 32 [v0] (.int (252645135) :: st) h Q) ∧
    (∀ (v0 : Value) (x : Int32) (y : Int32) (st : List Value) (h : mr_h) (Q : Option Value → mr_h → Prop), mr_wp 50 32 [v0] (.int y :: .int x :: st) h Q = mr_wp 50 33 [v0] (.int (x &&& y) :: st) h Q) ∧
    (∀ (v0 : Value) (x : Int32) (st : List Value) (h : mr_h) (Q : Option Value → mr_h → Prop), mr_wp 50 33 [v0] (.int x :: st) h Q = mr_wp 50 34 [.int x] st h Q) ∧
    (∀ (x : Int32) (st : List Value) (h : mr_h) (Q : Option Value → mr_h → Prop), mr_wp 50 34 [.int x] st h Q = mr_wp 50 35 [.int x] (.int x :: st) h Q) ∧
    (∀ (x : Int32) (st : List Value) (h : mr_h) (Q : Option Value → mr_h → Prop), mr_wp 50 35 [.int x] st h Q = mr_wp 50 36 [.int x] (.int x :: st) h Q) ∧
    (∀ (v0 : Value) (st : List Value) (h : mr_h) (Q : Option Value → mr_h → Prop), mr_wp 50 36 [v0] st h Q = mr_wp 50 38 [v0] (.int (8) :: st) h Q) ∧
    (∀ (v0 : Value) (x : Int32) (y : Int32) (st : List Value) (h : mr_h) (Q : Option Value → mr_h → Prop), mr_wp 50 38 [v0] (.int y :: .int x :: st) h Q = mr_wp 50 39 [v0] (.int ((x.toUInt32 >>> (y.toUInt32 &&& Int32.toUInt32 31)).toInt32) :: st) h Q) ∧
    (∀ (v0 : Value) (x : Int32) (y : Int32) (st : List Value) (h : mr_h) (Q : Option Value → mr_h → Prop), mr_wp 50 39 [v0] (.int y :: .int x :: st) h Q = mr_wp 50 40 [v0] (.int (x + y) :: st) h Q) ∧
    (∀ (v0 : Value) (x : Int32) (st : List Value) (h : mr_h) (Q : Option Value → mr_h → Prop), mr_wp 50 40 [v0] (.int x :: st) h Q = mr_wp 50 41 [.int x] st h Q) ∧
    (∀ (x : Int32) (st : List Value) (h : mr_h) (Q : Option Value → mr_h → Prop), mr_wp 50 41 [.int x] st h Q = mr_wp 50 42 [.int x] (.int x :: st) h Q) ∧
    (∀ (x : Int32) (st : List Value) (h : mr_h) (Q : Option Value → mr_h → Prop), mr_wp 50 42 [.int x] st h Q = mr_wp 50 43 [.int x] (.int x :: st) h Q) ∧
    (∀ (v0 : Value) (st : List Value) (h : mr_h) (Q : Option Value → mr_h → Prop), mr_wp 50 43 [v0] st h Q = mr_wp 50 45 [v0] (.int (16) :: st) h Q) ∧
    (∀ (v0 : Value) (x : Int32) (y : Int32) (st : List Value) (h : mr_h) (Q : Option Value → mr_h → Prop), mr_wp 50 45 [v0] (.int y :: .int x :: st) h Q = mr_wp 50 46 [v0] (.int ((x.toUInt32 >>> (y.toUInt32 &&& Int32.toUInt32 31)).toInt32) :: st) h Q) ∧
    (∀ (v0 : Value) (x : Int32) (y : Int32) (st : List Value) (h : mr_h) (Q : Option Value → mr_h → Prop), mr_wp 50 46 [v0] (.int y :: .int x :: st) h Q = mr_wp 50 47 [v0] (.int (x + y) :: st) h Q) ∧
    (∀ (v0 : Value) (x : Int32) (st : List Value) (h : mr_h) (Q : Option Value → mr_h → Prop), mr_wp 50 47 [v0] (.int x :: st) h Q = mr_wp 50 48 [.int x] st h Q) ∧
    (∀ (x : Int32) (st : List Value) (h : mr_h) (Q : Option Value → mr_h → Prop), mr_wp 50 48 [.int x] st h Q = mr_wp 50 49 [.int x] (.int x :: st) h Q) ∧
    (∀ (v0 : Value) (st : List Value) (h : mr_h) (Q : Option Value → mr_h → Prop), mr_wp 50 49 [v0] st h Q = mr_wp 50 51 [v0] (.int (63) :: st) h Q) :=
  ⟨fun x st h Q => gx_one (i := .iload_n 0) (len := 1) (by decide +kernel) rfl,
   fun x st h Q => gx_one (i := .iload_n 0) (len := 1) (by decide +kernel) rfl,
   fun v0 st h Q => gx_one (i := .iconst 1) (len := 1) (by decide +kernel) rfl,
   fun v0 x y st h Q => gx_one (i := .iushr) (len := 1) (by decide +kernel) rfl,
   fun v0 st h Q => gx_ldc (x := 265) (by decide +kernel) (by decide +kernel),
   fun v0 x y st h Q => gx_one (i := .iand) (len := 1) (by decide +kernel) rfl,
   fun v0 x y st h Q => gx_one (i := .isub) (len := 1) (by decide +kernel) rfl,
   fun v0 x st h Q => gx_one (i := .istore_n 0) (len := 1) (by decide +kernel) rfl,
   fun x st h Q => gx_one (i := .iload_n 0) (len := 1) (by decide +kernel) rfl,
   fun v0 st h Q => gx_ldc (x := 266) (by decide +kernel) (by decide +kernel),
   fun v0 x y st h Q => gx_one (i := .iand) (len := 1) (by decide +kernel) rfl,
   fun x st h Q => gx_one (i := .iload_n 0) (len := 1) (by decide +kernel) rfl,
   fun v0 st h Q => gx_one (i := .iconst 2) (len := 1) (by decide +kernel) rfl,
   fun v0 x y st h Q => gx_one (i := .iushr) (len := 1) (by decide +kernel) rfl,
   fun v0 st h Q => gx_ldc (x := 266) (by decide +kernel) (by decide +kernel),
   fun v0 x y st h Q => gx_one (i := .iand) (len := 1) (by decide +kernel) rfl,
   fun v0 x y st h Q => gx_one (i := .iadd) (len := 1) (by decide +kernel) rfl,
   fun v0 x st h Q => gx_one (i := .istore_n 0) (len := 1) (by decide +kernel) rfl,
   fun x st h Q => gx_one (i := .iload_n 0) (len := 1) (by decide +kernel) rfl,
   fun x st h Q => gx_one (i := .iload_n 0) (len := 1) (by decide +kernel) rfl,
   fun v0 st h Q => gx_one (i := .iconst 4) (len := 1) (by decide +kernel) rfl,
   fun v0 x y st h Q => gx_one (i := .iushr) (len := 1) (by decide +kernel) rfl,
   fun v0 x y st h Q => gx_one (i := .iadd) (len := 1) (by decide +kernel) rfl,
   fun v0 st h Q => gx_ldc (x := 267) (by decide +kernel) (by decide +kernel),
   fun v0 x y st h Q => gx_one (i := .iand) (len := 1) (by decide +kernel) rfl,
   fun v0 x st h Q => gx_one (i := .istore_n 0) (len := 1) (by decide +kernel) rfl,
   fun x st h Q => gx_one (i := .iload_n 0) (len := 1) (by decide +kernel) rfl,
   fun x st h Q => gx_one (i := .iload_n 0) (len := 1) (by decide +kernel) rfl,
   fun v0 st h Q => gx_one (i := .bipush 8) (len := 2) (by decide +kernel) rfl,
   fun v0 x y st h Q => gx_one (i := .iushr) (len := 1) (by decide +kernel) rfl,
   fun v0 x y st h Q => gx_one (i := .iadd) (len := 1) (by decide +kernel) rfl,
   fun v0 x st h Q => gx_one (i := .istore_n 0) (len := 1) (by decide +kernel) rfl,
   fun x st h Q => gx_one (i := .iload_n 0) (len := 1) (by decide +kernel) rfl,
   fun x st h Q => gx_one (i := .iload_n 0) (len := 1) (by decide +kernel) rfl,
   fun v0 st h Q => gx_one (i := .bipush 16) (len := 2) (by decide +kernel) rfl,
   fun v0 x y st h Q => gx_one (i := .iushr) (len := 1) (by decide +kernel) rfl,
   fun v0 x y st h Q => gx_one (i := .iadd) (len := 1) (by decide +kernel) rfl,
   fun v0 x st h Q => gx_one (i := .istore_n 0) (len := 1) (by decide +kernel) rfl,
   fun x st h Q => gx_one (i := .iload_n 0) (len := 1) (by decide +kernel) rfl,
   fun v0 st h Q => gx_one (i := .bipush 63) (len := 2) (by decide +kernel) rfl⟩
theorem S_in_bitCount_1 : (∀ (v0 : Value) (x : Int32) (y : Int32) (st : List Value) (h : mr_h) (Q : Option Value → mr_h → Prop), mr_wp 50 51 [v0] (.int y :: .int x :: st) h Q = mr_wp 50 52 [v0] (.int (x &&& y) :: st) h Q) ∧
    (∀ (v0 : Value) (x : Int32) (h : mr_h) (Q : Option Value → mr_h → Prop), mr_wp 50 52 [v0] [.int x] h Q = Q (some (.int x)) h) :=
  ⟨fun v0 x y st h Q => gx_one (i := .iand) (len := 1) (by decide +kernel) rfl,
   fun v0 x h Q => gx_ret (i := .ireturn) (len := 1) (by decide +kernel) rfl rfl (by simp only [mr_rt, if_pos]; rw [if_pos (Or.inl (by decide +kernel))])⟩

theorem S_re_ringCount : (∀ (x : Nat) (st : List Value) (h : mr_h) (Q : Option Value → mr_h → Prop), mr_wp 51 0 [.ref x] st h Q = mr_wp 51 1 [.ref x] (.ref x :: st) h Q) ∧
    (∀ (v0 : Value) (a : Nat) (st : List Value) (h : mr_h) (Q : Option Value → mr_h → Prop), mr_wp 51 1 [v0] (.ref a :: st) h Q = mr_gf (h.1 a) 6 9 (fun v => mr_wp 51 4 [v0] (v :: st) h Q)) ∧
    (∀ (v0 : Value) (a0 : Int32) (h : mr_h) (Q : Option Value → mr_h → Prop), mr_wp 51 4 [v0] [.int a0] h Q = mr_run 50 [.int a0] h (fun v h' => mr_wp 51 7 [v0] (v.toList ++ []) h' Q)) ∧
    (∀ (v0 : Value) (x : Int32) (h : mr_h) (Q : Option Value → mr_h → Prop), mr_wp 51 7 [v0] [.int x] h Q = Q (some (.int x)) h) :=
  ⟨fun x st h Q => gx_one (i := .aload_n 0) (len := 1) (by decide +kernel) rfl,
   fun v0 a st h Q => gx_get (x := 40) (by decide +kernel) (by decide +kernel),
   fun v0 a0 h Q => gx_stat (x := 79) (t := 50) (n := 1) (by decide +kernel) (by decide +kernel) (by decide) (by decide +kernel) rfl (Or.inl (Nat.le_of_ble_eq_true rfl)) (by show _ ≤ mr_mxl 50; rw [show mr_mxl 50 = 1 from by decide +kernel]; exact Nat.le_of_ble_eq_true rfl),
   fun v0 x h Q => gx_ret (i := .ireturn) (len := 1) (by decide +kernel) rfl rfl (by simp only [mr_rt, if_pos]; rw [if_pos (Or.inl (by decide +kernel))])⟩
theorem s_re_labelCount_4 (v0 v1 : Value) (x : Int32) (st : List Value) (h : mr_h) (Q : Option Value → mr_h → Prop) : mr_wp 52 4 [v0, v1, .int x] st h Q = mr_wp 52 5 [v0, v1, .int x] (.int x :: st) h Q := gx_one (i := .iload_n 2) (len := 1) (by decide +kernel) rfl
theorem S_re_labelCount : (∀ (v0 v1 v2 : Value) (st : List Value) (h : mr_h) (Q : Option Value → mr_h → Prop), mr_wp 52 0 [v0, v1, v2] st h Q = mr_wp 52 1 [v0, v1, v2] (.int (0) :: st) h Q) ∧
    (∀ (v1 v2 : Value) (w0 : Nat) (x : Int32) (st : List Value) (h : mr_h) (Q : Option Value → mr_h → Prop), mr_wp 52 1 [.ref w0, v1, v2] (.int x :: st) h Q = mr_wp 52 2 [.ref w0, .int x, v2] st h Q) ∧
    (∀ (v0 v1 v2 : Value) (st : List Value) (h : mr_h) (Q : Option Value → mr_h → Prop), mr_wp 52 2 [v0, v1, v2] st h Q = mr_wp 52 3 [v0, v1, v2] (.int (0) :: st) h Q) ∧
    (∀ (v0 v2 : Value) (w1 : Int32) (x : Int32) (st : List Value) (h : mr_h) (Q : Option Value → mr_h → Prop), mr_wp 52 3 [v0, .int w1, v2] (.int x :: st) h Q = mr_wp 52 4 [v0, .int w1, .int x] st h Q) ∧
    (∀ (v1 v2 : Value) (x : Nat) (st : List Value) (h : mr_h) (Q : Option Value → mr_h → Prop), mr_wp 52 5 [.ref x, v1, v2] st h Q = mr_wp 52 6 [.ref x, v1, v2] (.ref x :: st) h Q) ∧
    (∀ (v0 v1 v2 : Value) (a : Nat) (st : List Value) (h : mr_h) (Q : Option Value → mr_h → Prop), mr_wp 52 6 [v0, v1, v2] (.ref a :: st) h Q = mr_gf (h.1 a) 6 8 (fun v => mr_wp 52 9 [v0, v1, v2] (v :: st) h Q)) ∧
    (∀ (v0 v1 v2 : Value) (x : Int32) (y : Int32) (st : List Value) (h : mr_h) (Q : Option Value → mr_h → Prop), mr_wp 52 9 [v0, v1, v2] (.int y :: .int x :: st) h Q = if y ≤ x then mr_wp 52 51 [v0, v1, v2] st h Q else mr_wp 52 12 [v0, v1, v2] st h Q) ∧
    (∀ (v1 v2 : Value) (x : Nat) (st : List Value) (h : mr_h) (Q : Option Value → mr_h → Prop), mr_wp 52 12 [.ref x, v1, v2] st h Q = mr_wp 52 13 [.ref x, v1, v2] (.ref x :: st) h Q) ∧
    (∀ (v0 v1 v2 : Value) (a : Nat) (st : List Value) (h : mr_h) (Q : Option Value → mr_h → Prop), mr_wp 52 13 [v0, v1, v2] (.ref a :: st) h Q = mr_gf (h.1 a) 6 9 (fun v => mr_wp 52 16 [v0, v1, v2] (v :: st) h Q)) ∧
    (∀ (v0 v1 : Value) (x : Int32) (st : List Value) (h : mr_h) (Q : Option Value → mr_h → Prop), mr_wp 52 16 [v0, v1, .int x] st h Q = mr_wp 52 17 [v0, v1, .int x] (.int x :: st) h Q) ∧
    (∀ (v0 v1 v2 : Value) (a0 : Int32) (a1 : Int32) (h : mr_h) (Q : Option Value → mr_h → Prop), mr_wp 52 17 [v0, v1, v2] [.int a1, .int a0] h Q = mr_run 17 [.int a0, .int a1] h (fun v h' => mr_wp 52 20 [v0, v1, v2] (v.toList ++ []) h' Q)) ∧
    (∀ (v0 v1 v2 : Value) (x : Int32) (st : List Value) (h : mr_h) (Q : Option Value → mr_h → Prop), mr_wp 52 20 [v0, v1, v2] (.int x :: st) h Q = if x = 0 then mr_wp 52 45 [v0, v1, v2] st h Q else mr_wp 52 23 [v0, v1, v2] st h Q) ∧
    (∀ (v0 v2 : Value) (x : Int32) (st : List Value) (h : mr_h) (Q : Option Value → mr_h → Prop), mr_wp 52 23 [v0, .int x, v2] st h Q = mr_wp 52 24 [v0, .int x, v2] (.int x :: st) h Q) ∧
    (∀ (v1 v2 : Value) (x : Nat) (st : List Value) (h : mr_h) (Q : Option Value → mr_h → Prop), mr_wp 52 24 [.ref x, v1, v2] st h Q = mr_wp 52 25 [.ref x, v1, v2] (.ref x :: st) h Q) ∧
    (∀ (v0 v1 v2 : Value) (a : Nat) (st : List Value) (h : mr_h) (Q : Option Value → mr_h → Prop), mr_wp 52 25 [v0, v1, v2] (.ref a :: st) h Q = mr_gf (h.1 a) 6 3 (fun v => mr_wp 52 28 [v0, v1, v2] (v :: st) h Q)) ∧
    (∀ (v0 v1 : Value) (x : Int32) (st : List Value) (h : mr_h) (Q : Option Value → mr_h → Prop), mr_wp 52 28 [v0, v1, .int x] st h Q = mr_wp 52 29 [v0, v1, .int x] (.int x :: st) h Q) ∧
    (∀ (v0 v1 v2 : Value) (a : Nat) (x : Int32) (st : List Value) (h : mr_h) (Q : Option Value → mr_h → Prop), mr_wp 52 29 [v0, v1, v2] (.int x :: .ref a :: st) h Q = mr_ai (h.1 a) x (fun v => mr_wp 52 30 [v0, v1, v2] (.int v :: st) h Q)) ∧
    (∀ (v0 v1 v2 : Value) (a0 : Int32) (r0 : Value) (h : mr_h) (Q : Option Value → mr_h → Prop), mr_wp 52 30 [v0, v1, v2] [.int a0, r0] h Q = mr_run 50 [.int a0] h (fun v h' => mr_wp 52 33 [v0, v1, v2] (v.toList ++ [r0]) h' Q)) ∧
    (∀ (v1 v2 : Value) (x : Nat) (st : List Value) (h : mr_h) (Q : Option Value → mr_h → Prop), mr_wp 52 33 [.ref x, v1, v2] st h Q = mr_wp 52 34 [.ref x, v1, v2] (.ref x :: st) h Q) ∧
    (∀ (v0 v1 v2 : Value) (a : Nat) (st : List Value) (h : mr_h) (Q : Option Value → mr_h → Prop), mr_wp 52 34 [v0, v1, v2] (.ref a :: st) h Q = mr_gf (h.1 a) 6 4 (fun v => mr_wp 52 37 [v0, v1, v2] (v :: st) h Q)) ∧
    (∀ (v0 v1 : Value) (x : Int32) (st : List Value) (h : mr_h) (Q : Option Value → mr_h → Prop), mr_wp 52 37 [v0, v1, .int x] st h Q = mr_wp 52 38 [v0, v1, .int x] (.int x :: st) h Q) ∧
    (∀ (v0 v1 v2 : Value) (a : Nat) (x : Int32) (st : List Value) (h : mr_h) (Q : Option Value → mr_h → Prop), mr_wp 52 38 [v0, v1, v2] (.int x :: .ref a :: st) h Q = mr_ai (h.1 a) x (fun v => mr_wp 52 39 [v0, v1, v2] (.int v :: st) h Q)) ∧
    (∀ (v0 v1 v2 : Value) (a0 : Int32) (r0 : Value) (r1 : Value) (h : mr_h) (Q : Option Value → mr_h → Prop), mr_wp 52 39 [v0, v1, v2] [.int a0, r0, r1] h Q = mr_run 50 [.int a0] h (fun v h' => mr_wp 52 42 [v0, v1, v2] (v.toList ++ [r0, r1]) h' Q)) ∧
    (∀ (v0 v1 v2 : Value) (x : Int32) (y : Int32) (st : List Value) (h : mr_h) (Q : Option Value → mr_h → Prop), mr_wp 52 42 [v0, v1, v2] (.int y :: .int x :: st) h Q = mr_wp 52 43 [v0, v1, v2] (.int (x + y) :: st) h Q) ∧
    (∀ (v0 v1 v2 : Value) (x : Int32) (y : Int32) (st : List Value) (h : mr_h) (Q : Option Value → mr_h → Prop), mr_wp 52 43 [v0, v1, v2] (.int y :: .int x :: st) h Q = mr_wp 52 44 [v0, v1, v2] (.int (x + y) :: st) h Q) ∧
    (∀ (v1 v2 : Value) (w0 : Nat) (x : Int32) (st : List Value) (h : mr_h) (Q : Option Value → mr_h → Prop), mr_wp 52 44 [.ref w0, v1, v2] (.int x :: st) h Q = mr_wp 52 45 [.ref w0, .int x, v2] st h Q) ∧
    (∀ (v0 : Value) (x : Int32) (w1 : Int32) (st : List Value) (h : mr_h) (Q : Option Value → mr_h → Prop), mr_wp 52 45 [v0, .int w1, .int x] st h Q = mr_wp 52 48 [v0, .int w1, .int (x + (1))] st h Q) ∧
    (∀ (v0 v1 v2 : Value) (st : List Value) (h : mr_h) (Q : Option Value → mr_h → Prop), mr_wp 52 48 [v0, v1, v2] st h Q = mr_wp 52 4 [v0, v1, v2] st h Q) ∧
    (∀ (v0 v2 : Value) (x : Int32) (st : List Value) (h : mr_h) (Q : Option Value → mr_h → Prop), mr_wp 52 51 [v0, .int x, v2] st h Q = mr_wp 52 52 [v0, .int x, v2] (.int x :: st) h Q) ∧
    (∀ (v0 v1 v2 : Value) (x : Int32) (h : mr_h) (Q : Option Value → mr_h → Prop), mr_wp 52 52 [v0, v1, v2] [.int x] h Q = Q (some (.int x)) h) :=
  ⟨fun v0 v1 v2 st h Q => gx_one (i := .iconst 0) (len := 1) (by decide +kernel) rfl,
   fun v1 v2 w0 x st h Q => gx_one (i := .istore_n 1) (len := 1) (by decide +kernel) rfl,
   fun v0 v1 v2 st h Q => gx_one (i := .iconst 0) (len := 1) (by decide +kernel) rfl,
   fun v0 v2 w1 x st h Q => gx_one (i := .istore_n 2) (len := 1) (by decide +kernel) rfl,
   fun v1 v2 x st h Q => gx_one (i := .aload_n 0) (len := 1) (by decide +kernel) rfl,
   fun v0 v1 v2 a st h Q => gx_get (x := 36) (by decide +kernel) (by decide +kernel),
   fun v0 v1 v2 x y st h Q => gx_br (i := .if_icmp .ge 42) (len := 3) (c := .ge) (by decide +kernel) rfl rfl,
   fun v1 v2 x st h Q => gx_one (i := .aload_n 0) (len := 1) (by decide +kernel) rfl,
   fun v0 v1 v2 a st h Q => gx_get (x := 40) (by decide +kernel) (by decide +kernel),
   fun v0 v1 x st h Q => gx_one (i := .iload_n 2) (len := 1) (by decide +kernel) rfl,
   fun v0 v1 v2 a0 a1 h Q => gx_stat (x := 75) (t := 17) (n := 2) (by decide +kernel) (by decide +kernel) (by decide) (by decide +kernel) rfl (Or.inl (Nat.le_of_ble_eq_true rfl)) (by show _ ≤ mr_mxl 17; rw [show mr_mxl 17 = 2 from by decide +kernel]; exact Nat.le_of_ble_eq_true rfl),
   fun v0 v1 v2 x st h Q => gx_br (i := .ifCond .eq 25) (len := 3) (c := .eq) (by decide +kernel) rfl rfl,
   fun v0 v2 x st h Q => gx_one (i := .iload_n 1) (len := 1) (by decide +kernel) rfl,
   fun v1 v2 x st h Q => gx_one (i := .aload_n 0) (len := 1) (by decide +kernel) rfl,
   fun v0 v1 v2 a st h Q => gx_get (x := 21) (by decide +kernel) (by decide +kernel),
   fun v0 v1 x st h Q => gx_one (i := .iload_n 2) (len := 1) (by decide +kernel) rfl,
   fun v0 v1 v2 a x st h Q => gx_iald (by decide +kernel),
   fun v0 v1 v2 a0 r0 h Q => gx_stat (x := 79) (t := 50) (n := 1) (by decide +kernel) (by decide +kernel) (by decide) (by decide +kernel) rfl (Or.inl (Nat.le_of_ble_eq_true rfl)) (by show _ ≤ mr_mxl 50; rw [show mr_mxl 50 = 1 from by decide +kernel]; exact Nat.le_of_ble_eq_true rfl),
   fun v1 v2 x st h Q => gx_one (i := .aload_n 0) (len := 1) (by decide +kernel) rfl,
   fun v0 v1 v2 a st h Q => gx_get (x := 24) (by decide +kernel) (by decide +kernel),
   fun v0 v1 x st h Q => gx_one (i := .iload_n 2) (len := 1) (by decide +kernel) rfl,
   fun v0 v1 v2 a x st h Q => gx_iald (by decide +kernel),
   fun v0 v1 v2 a0 r0 r1 h Q => gx_stat (x := 79) (t := 50) (n := 1) (by decide +kernel) (by decide +kernel) (by decide) (by decide +kernel) rfl (Or.inl (Nat.le_of_ble_eq_true rfl)) (by show _ ≤ mr_mxl 50; rw [show mr_mxl 50 = 1 from by decide +kernel]; exact Nat.le_of_ble_eq_true rfl),
   fun v0 v1 v2 x y st h Q => gx_one (i := .iadd) (len := 1) (by decide +kernel) rfl,
   fun v0 v1 v2 x y st h Q => gx_one (i := .iadd) (len := 1) (by decide +kernel) rfl,
   fun v1 v2 w0 x st h Q => gx_one (i := .istore_n 1) (len := 1) (by decide +kernel) rfl,
   fun v0 x w1 st h Q => gx_one (i := .iinc 2 1) (len := 3) (by decide +kernel) rfl,
   fun v0 v1 v2 st h Q => gx_one (i := .goto (-44)) (len := 3) (by decide +kernel) rfl,
   fun v0 v2 x st h Q => gx_one (i := .iload_n 1) (len := 1) (by decide +kernel) rfl,
   fun v0 v1 v2 x h Q => gx_ret (i := .ireturn) (len := 1) (by decide +kernel) rfl rfl (by simp only [mr_rt, if_pos]; rw [if_pos (Or.inl (by decide +kernel))])⟩
theorem S_re_pairCount : (∀ (x : Nat) (st : List Value) (h : mr_h) (Q : Option Value → mr_h → Prop), mr_wp 53 0 [.ref x] st h Q = mr_wp 53 1 [.ref x] (.ref x :: st) h Q) ∧
    (∀ (v0 : Value) (a : Nat) (st : List Value) (h : mr_h) (Q : Option Value → mr_h → Prop), mr_wp 53 1 [v0] (.ref a :: st) h Q = mr_gf (h.1 a) 6 0 (fun v => mr_wp 53 4 [v0] (v :: st) h Q)) ∧
    (∀ (x : Nat) (st : List Value) (h : mr_h) (Q : Option Value → mr_h → Prop), mr_wp 53 4 [.ref x] st h Q = mr_wp 53 5 [.ref x] (.ref x :: st) h Q) ∧
    (∀ (v0 : Value) (a : Nat) (st : List Value) (h : mr_h) (Q : Option Value → mr_h → Prop), mr_wp 53 5 [v0] (.ref a :: st) h Q = mr_gf (h.1 a) 6 8 (fun v => mr_wp 53 8 [v0] (v :: st) h Q)) ∧
    (∀ (v0 : Value) (a0 : Nat) (a1 : Int32) (h : mr_h) (Q : Option Value → mr_h → Prop), mr_wp 53 8 [v0] [.int a1, .ref a0] h Q = mr_run 54 [.ref a0, .int a1] h (fun v h' => mr_wp 53 11 [v0] (v.toList ++ []) h' Q)) ∧
    (∀ (v0 : Value) (x : Int32) (h : mr_h) (Q : Option Value → mr_h → Prop), mr_wp 53 11 [v0] [.int x] h Q = Q (some (.int x)) h) :=
  ⟨fun x st h Q => gx_one (i := .aload_n 0) (len := 1) (by decide +kernel) rfl,
   fun v0 a st h Q => gx_get (x := 9) (by decide +kernel) (by decide +kernel),
   fun x st h Q => gx_one (i := .aload_n 0) (len := 1) (by decide +kernel) rfl,
   fun v0 a st h Q => gx_get (x := 36) (by decide +kernel) (by decide +kernel),
   fun v0 a0 a1 h Q => gx_stat (x := 85) (t := 54) (n := 2) (by decide +kernel) (by decide +kernel) (by decide) (by decide +kernel) rfl (Or.inl (Nat.le_of_ble_eq_true rfl)) (by show _ ≤ mr_mxl 54; rw [show mr_mxl 54 = 4 from by decide +kernel]; exact Nat.le_of_ble_eq_true rfl),
   fun v0 x h Q => gx_ret (i := .ireturn) (len := 1) (by decide +kernel) rfl rfl (by simp only [mr_rt, if_pos]; rw [if_pos (Or.inl (by decide +kernel))])⟩
theorem s_rl_pairsOf_4 (v0 v1 v2 : Value) (x : Int32) (st : List Value) (h : mr_h) (Q : Option Value → mr_h → Prop) : mr_wp 54 4 [v0, v1, v2, .int x] st h Q = mr_wp 54 5 [v0, v1, v2, .int x] (.int x :: st) h Q := gx_one (i := .iload_n 3) (len := 1) (by decide +kernel) rfl
theorem S_rl_pairsOf : (∀ (v0 v1 v2 v3 : Value) (st : List Value) (h : mr_h) (Q : Option Value → mr_h → Prop), mr_wp 54 0 [v0, v1, v2, v3] st h Q = mr_wp 54 1 [v0, v1, v2, v3] (.int (0) :: st) h Q) ∧
    (∀ (v0 v2 v3 : Value) (w1 : Int32) (x : Int32) (st : List Value) (h : mr_h) (Q : Option Value → mr_h → Prop), mr_wp 54 1 [v0, .int w1, v2, v3] (.int x :: st) h Q = mr_wp 54 2 [v0, .int w1, .int x, v3] st h Q) ∧
    (∀ (v0 v1 v2 v3 : Value) (st : List Value) (h : mr_h) (Q : Option Value → mr_h → Prop), mr_wp 54 2 [v0, v1, v2, v3] st h Q = mr_wp 54 3 [v0, v1, v2, v3] (.int (0) :: st) h Q) ∧
    (∀ (v0 v1 v3 : Value) (w2 : Int32) (x : Int32) (st : List Value) (h : mr_h) (Q : Option Value → mr_h → Prop), mr_wp 54 3 [v0, v1, .int w2, v3] (.int x :: st) h Q = mr_wp 54 4 [v0, v1, .int w2, .int x] st h Q) ∧
    (∀ (v0 v2 v3 : Value) (x : Int32) (st : List Value) (h : mr_h) (Q : Option Value → mr_h → Prop), mr_wp 54 5 [v0, .int x, v2, v3] st h Q = mr_wp 54 6 [v0, .int x, v2, v3] (.int x :: st) h Q) ∧
    (∀ (v0 v1 v2 v3 : Value) (x : Int32) (y : Int32) (st : List Value) (h : mr_h) (Q : Option Value → mr_h → Prop), mr_wp 54 6 [v0, v1, v2, v3] (.int y :: .int x :: st) h Q = if y ≤ x then mr_wp 54 26 [v0, v1, v2, v3] st h Q else mr_wp 54 9 [v0, v1, v2, v3] st h Q) ∧
    (∀ (v0 v1 v3 : Value) (x : Int32) (st : List Value) (h : mr_h) (Q : Option Value → mr_h → Prop), mr_wp 54 9 [v0, v1, .int x, v3] st h Q = mr_wp 54 10 [v0, v1, .int x, v3] (.int x :: st) h Q) ∧
    (∀ (v1 v2 v3 : Value) (x : Nat) (st : List Value) (h : mr_h) (Q : Option Value → mr_h → Prop), mr_wp 54 10 [.ref x, v1, v2, v3] st h Q = mr_wp 54 11 [.ref x, v1, v2, v3] (.ref x :: st) h Q) ∧
    (∀ (v0 v1 v2 : Value) (x : Int32) (st : List Value) (h : mr_h) (Q : Option Value → mr_h → Prop), mr_wp 54 11 [v0, v1, v2, .int x] st h Q = mr_wp 54 12 [v0, v1, v2, .int x] (.int x :: st) h Q) ∧
    (∀ (v0 v1 v2 v3 : Value) (a : Nat) (x : Int32) (st : List Value) (h : mr_h) (Q : Option Value → mr_h → Prop), mr_wp 54 12 [v0, v1, v2, v3] (.int x :: .ref a :: st) h Q = mr_ai (h.1 a) x (fun v => mr_wp 54 13 [v0, v1, v2, v3] (.int v :: st) h Q)) ∧
    (∀ (v0 v1 v2 v3 : Value) (a0 : Int32) (r0 : Value) (h : mr_h) (Q : Option Value → mr_h → Prop), mr_wp 54 13 [v0, v1, v2, v3] [.int a0, r0] h Q = mr_run 50 [.int a0] h (fun v h' => mr_wp 54 16 [v0, v1, v2, v3] (v.toList ++ [r0]) h' Q)) ∧
    (∀ (v0 v1 v2 v3 : Value) (st : List Value) (h : mr_h) (Q : Option Value → mr_h → Prop), mr_wp 54 16 [v0, v1, v2, v3] st h Q = mr_wp 54 17 [v0, v1, v2, v3] (.int (1) :: st) h Q) ∧
    (∀ (v0 v1 v2 v3 : Value) (x : Int32) (y : Int32) (st : List Value) (h : mr_h) (Q : Option Value → mr_h → Prop), mr_wp 54 17 [v0, v1, v2, v3] (.int y :: .int x :: st) h Q = mr_wp 54 18 [v0, v1, v2, v3] (.int (x - y) :: st) h Q) ∧
    (∀ (v0 v1 v2 v3 : Value) (x : Int32) (y : Int32) (st : List Value) (h : mr_h) (Q : Option Value → mr_h → Prop), mr_wp 54 18 [v0, v1, v2, v3] (.int y :: .int x :: st) h Q = mr_wp 54 19 [v0, v1, v2, v3] (.int (x + y) :: st) h Q) ∧
    (∀ (v0 v2 v3 : Value) (w1 : Int32) (x : Int32) (st : List Value) (h : mr_h) (Q : Option Value → mr_h → Prop), mr_wp 54 19 [v0, .int w1, v2, v3] (.int x :: st) h Q = mr_wp 54 20 [v0, .int w1, .int x, v3] st h Q) ∧
    (∀ (v0 v1 : Value) (x : Int32) (w2 : Int32) (st : List Value) (h : mr_h) (Q : Option Value → mr_h → Prop), mr_wp 54 20 [v0, v1, .int w2, .int x] st h Q = mr_wp 54 23 [v0, v1, .int w2, .int (x + (1))] st h Q) ∧
    (∀ (v0 v1 v2 v3 : Value) (st : List Value) (h : mr_h) (Q : Option Value → mr_h → Prop), mr_wp 54 23 [v0, v1, v2, v3] st h Q = mr_wp 54 4 [v0, v1, v2, v3] st h Q) ∧
    (∀ (v0 v1 v3 : Value) (x : Int32) (st : List Value) (h : mr_h) (Q : Option Value → mr_h → Prop), mr_wp 54 26 [v0, v1, .int x, v3] st h Q = mr_wp 54 27 [v0, v1, .int x, v3] (.int x :: st) h Q) ∧
    (∀ (v0 v1 v2 v3 : Value) (x : Int32) (h : mr_h) (Q : Option Value → mr_h → Prop), mr_wp 54 27 [v0, v1, v2, v3] [.int x] h Q = Q (some (.int x)) h) :=
  ⟨fun v0 v1 v2 v3 st h Q => gx_one (i := .iconst 0) (len := 1) (by decide +kernel) rfl,
   fun v0 v2 v3 w1 x st h Q => gx_one (i := .istore_n 2) (len := 1) (by decide +kernel) rfl,
   fun v0 v1 v2 v3 st h Q => gx_one (i := .iconst 0) (len := 1) (by decide +kernel) rfl,
   fun v0 v1 v3 w2 x st h Q => gx_one (i := .istore_n 3) (len := 1) (by decide +kernel) rfl,
   fun v0 v2 v3 x st h Q => gx_one (i := .iload_n 1) (len := 1) (by decide +kernel) rfl,
   fun v0 v1 v2 v3 x y st h Q => gx_br (i := .if_icmp .ge 20) (len := 3) (c := .ge) (by decide +kernel) rfl rfl,
   fun v0 v1 v3 x st h Q => gx_one (i := .iload_n 2) (len := 1) (by decide +kernel) rfl,
   fun v1 v2 v3 x st h Q => gx_one (i := .aload_n 0) (len := 1) (by decide +kernel) rfl,
   fun v0 v1 v2 x st h Q => gx_one (i := .iload_n 3) (len := 1) (by decide +kernel) rfl,
   fun v0 v1 v2 v3 a x st h Q => gx_iald (by decide +kernel),
   fun v0 v1 v2 v3 a0 r0 h Q => gx_stat (x := 262) (t := 50) (n := 1) (by decide +kernel) (by decide +kernel) (by decide) (by decide +kernel) rfl (Or.inl (Nat.le_of_ble_eq_true rfl)) (by show _ ≤ mr_mxl 50; rw [show mr_mxl 50 = 1 from by decide +kernel]; exact Nat.le_of_ble_eq_true rfl),
   fun v0 v1 v2 v3 st h Q => gx_one (i := .iconst 1) (len := 1) (by decide +kernel) rfl,
   fun v0 v1 v2 v3 x y st h Q => gx_one (i := .isub) (len := 1) (by decide +kernel) rfl,
   fun v0 v1 v2 v3 x y st h Q => gx_one (i := .iadd) (len := 1) (by decide +kernel) rfl,
   fun v0 v2 v3 w1 x st h Q => gx_one (i := .istore_n 2) (len := 1) (by decide +kernel) rfl,
   fun v0 v1 x w2 st h Q => gx_one (i := .iinc 3 1) (len := 3) (by decide +kernel) rfl,
   fun v0 v1 v2 v3 st h Q => gx_one (i := .goto (-19)) (len := 3) (by decide +kernel) rfl,
   fun v0 v1 v3 x st h Q => gx_one (i := .iload_n 2) (len := 1) (by decide +kernel) rfl,
   fun v0 v1 v2 v3 x h Q => gx_ret (i := .ireturn) (len := 1) (by decide +kernel) rfl rfl (by simp only [mr_rt, if_pos]; rw [if_pos (Or.inl (by decide +kernel))])⟩
theorem s_cg_spareCount_4 (v0 v1 v2 v4 : Value) (x : Int32) (st : List Value) (h : mr_h) (Q : Option Value → mr_h → Prop) : mr_wp 55 4 [v0, v1, v2, .int x, v4] st h Q = mr_wp 55 5 [v0, v1, v2, .int x, v4] (.int x :: st) h Q := gx_one (i := .iload_n 3) (len := 1) (by decide +kernel) rfl
theorem s_cg_spareCount_15 (v0 v1 v2 v3 : Value) (x : Int32) (st : List Value) (h : mr_h) (Q : Option Value → mr_h → Prop) : mr_wp 55 15 [v0, v1, v2, v3, .int x] st h Q = mr_wp 55 17 [v0, v1, v2, v3, .int x] (.int x :: st) h Q := gx_one (i := .iload 4) (len := 2) (by decide +kernel) rfl
theorem S_cg_spareCount : (∀ (v0 v1 v2 v3 v4 : Value) (st : List Value) (h : mr_h) (Q : Option Value → mr_h → Prop), mr_wp 55 0 [v0, v1, v2, v3, v4] st h Q = mr_wp 55 1 [v0, v1, v2, v3, v4] (.int (0) :: st) h Q) ∧
    (∀ (v0 v2 v3 v4 : Value) (w1 : Nat) (x : Int32) (st : List Value) (h : mr_h) (Q : Option Value → mr_h → Prop), mr_wp 55 1 [v0, .ref w1, v2, v3, v4] (.int x :: st) h Q = mr_wp 55 2 [v0, .ref w1, .int x, v3, v4] st h Q) ∧
    (∀ (v0 v1 v2 v3 v4 : Value) (st : List Value) (h : mr_h) (Q : Option Value → mr_h → Prop), mr_wp 55 2 [v0, v1, v2, v3, v4] st h Q = mr_wp 55 3 [v0, v1, v2, v3, v4] (.int (0) :: st) h Q) ∧
    (∀ (v0 v1 v3 v4 : Value) (w2 : Int32) (x : Int32) (st : List Value) (h : mr_h) (Q : Option Value → mr_h → Prop), mr_wp 55 3 [v0, v1, .int w2, v3, v4] (.int x :: st) h Q = mr_wp 55 4 [v0, v1, .int w2, .int x, v4] st h Q) ∧
    (∀ (v0 v2 v3 v4 : Value) (x : Nat) (st : List Value) (h : mr_h) (Q : Option Value → mr_h → Prop), mr_wp 55 5 [v0, .ref x, v2, v3, v4] st h Q = mr_wp 55 6 [v0, .ref x, v2, v3, v4] (.ref x :: st) h Q) ∧
    (∀ (v0 v1 v2 v3 v4 : Value) (a : Nat) (st : List Value) (h : mr_h) (Q : Option Value → mr_h → Prop), mr_wp 55 6 [v0, v1, v2, v3, v4] (.ref a :: st) h Q = mr_gf (h.1 a) 3 0 (fun v => mr_wp 55 9 [v0, v1, v2, v3, v4] (v :: st) h Q)) ∧
    (∀ (v0 v1 v2 v3 v4 : Value) (x : Int32) (y : Int32) (st : List Value) (h : mr_h) (Q : Option Value → mr_h → Prop), mr_wp 55 9 [v0, v1, v2, v3, v4] (.int y :: .int x :: st) h Q = if y ≤ x then mr_wp 55 60 [v0, v1, v2, v3, v4] st h Q else mr_wp 55 12 [v0, v1, v2, v3, v4] st h Q) ∧
    (∀ (v0 v1 v2 v3 v4 : Value) (st : List Value) (h : mr_h) (Q : Option Value → mr_h → Prop), mr_wp 55 12 [v0, v1, v2, v3, v4] st h Q = mr_wp 55 13 [v0, v1, v2, v3, v4] (.int (0) :: st) h Q) ∧
    (∀ (v0 v1 v2 v4 : Value) (w3 : Int32) (x : Int32) (st : List Value) (h : mr_h) (Q : Option Value → mr_h → Prop), mr_wp 55 13 [v0, v1, v2, .int w3, v4] (.int x :: st) h Q = mr_wp 55 15 [v0, v1, v2, .int w3, .int x] st h Q) ∧
    (∀ (v0 v2 v3 v4 : Value) (x : Nat) (st : List Value) (h : mr_h) (Q : Option Value → mr_h → Prop), mr_wp 55 17 [v0, .ref x, v2, v3, v4] st h Q = mr_wp 55 18 [v0, .ref x, v2, v3, v4] (.ref x :: st) h Q) ∧
    (∀ (v0 v1 v2 v3 v4 : Value) (a : Nat) (st : List Value) (h : mr_h) (Q : Option Value → mr_h → Prop), mr_wp 55 18 [v0, v1, v2, v3, v4] (.ref a :: st) h Q = mr_gf (h.1 a) 3 0 (fun v => mr_wp 55 21 [v0, v1, v2, v3, v4] (v :: st) h Q)) ∧
    (∀ (v0 v1 v2 v3 v4 : Value) (x : Int32) (y : Int32) (st : List Value) (h : mr_h) (Q : Option Value → mr_h → Prop), mr_wp 55 21 [v0, v1, v2, v3, v4] (.int y :: .int x :: st) h Q = if y ≤ x then mr_wp 55 54 [v0, v1, v2, v3, v4] st h Q else mr_wp 55 24 [v0, v1, v2, v3, v4] st h Q) ∧
    (∀ (v0 v2 v3 v4 : Value) (x : Nat) (st : List Value) (h : mr_h) (Q : Option Value → mr_h → Prop), mr_wp 55 24 [v0, .ref x, v2, v3, v4] st h Q = mr_wp 55 25 [v0, .ref x, v2, v3, v4] (.ref x :: st) h Q) ∧
    (∀ (v0 v1 v2 v4 : Value) (x : Int32) (st : List Value) (h : mr_h) (Q : Option Value → mr_h → Prop), mr_wp 55 25 [v0, v1, v2, .int x, v4] st h Q = mr_wp 55 26 [v0, v1, v2, .int x, v4] (.int x :: st) h Q) ∧
    (∀ (v0 v1 v2 v3 : Value) (x : Int32) (st : List Value) (h : mr_h) (Q : Option Value → mr_h → Prop), mr_wp 55 26 [v0, v1, v2, v3, .int x] st h Q = mr_wp 55 28 [v0, v1, v2, v3, .int x] (.int x :: st) h Q) ∧
    (∀ (v0 v1 v2 v3 v4 : Value) (a0 : Int32) (a1 : Int32) (o : Nat) (h : mr_h) (Q : Option Value → mr_h → Prop), mr_wp 55 28 [v0, v1, v2, v3, v4] [.int a1, .int a0, .ref o] h Q = mr_rc (h.1 o) 3 (mr_run 38 [.ref o, .int a0, .int a1] h (fun v h' => mr_wp 55 31 [v0, v1, v2, v3, v4] (v.toList ++ []) h' Q))) ∧
    (∀ (v0 v1 v2 v3 v4 : Value) (x : Int32) (st : List Value) (h : mr_h) (Q : Option Value → mr_h → Prop), mr_wp 55 31 [v0, v1, v2, v3, v4] (.int x :: st) h Q = if x = 0 then mr_wp 55 48 [v0, v1, v2, v3, v4] st h Q else mr_wp 55 34 [v0, v1, v2, v3, v4] st h Q) ∧
    (∀ (v1 v2 v3 v4 : Value) (x : Nat) (st : List Value) (h : mr_h) (Q : Option Value → mr_h → Prop), mr_wp 55 34 [.ref x, v1, v2, v3, v4] st h Q = mr_wp 55 35 [.ref x, v1, v2, v3, v4] (.ref x :: st) h Q) ∧
    (∀ (v0 v2 v3 v4 : Value) (x : Nat) (st : List Value) (h : mr_h) (Q : Option Value → mr_h → Prop), mr_wp 55 35 [v0, .ref x, v2, v3, v4] st h Q = mr_wp 55 36 [v0, .ref x, v2, v3, v4] (.ref x :: st) h Q) ∧
    (∀ (v0 v1 v2 v4 : Value) (x : Int32) (st : List Value) (h : mr_h) (Q : Option Value → mr_h → Prop), mr_wp 55 36 [v0, v1, v2, .int x, v4] st h Q = mr_wp 55 37 [v0, v1, v2, .int x, v4] (.int x :: st) h Q) ∧
    (∀ (v0 v1 v2 v3 : Value) (x : Int32) (st : List Value) (h : mr_h) (Q : Option Value → mr_h → Prop), mr_wp 55 37 [v0, v1, v2, v3, .int x] st h Q = mr_wp 55 39 [v0, v1, v2, v3, .int x] (.int x :: st) h Q) ∧
    (∀ (v0 v1 v2 v3 v4 : Value) (a0 : Nat) (a1 : Int32) (a2 : Int32) (o : Nat) (h : mr_h) (Q : Option Value → mr_h → Prop), mr_wp 55 39 [v0, v1, v2, v3, v4] [.int a2, .int a1, .ref a0, .ref o] h Q = mr_rc (h.1 o) 2 (mr_run 56 [.ref o, .ref a0, .int a1, .int a2] h (fun v h' => mr_wp 55 42 [v0, v1, v2, v3, v4] (v.toList ++ []) h' Q))) ∧
    (∀ (v0 v1 v2 v3 v4 : Value) (x : Int32) (st : List Value) (h : mr_h) (Q : Option Value → mr_h → Prop), mr_wp 55 42 [v0, v1, v2, v3, v4] (.int x :: st) h Q = if x = 0 then mr_wp 55 48 [v0, v1, v2, v3, v4] st h Q else mr_wp 55 45 [v0, v1, v2, v3, v4] st h Q) ∧
    (∀ (v0 v3 v4 : Value) (x : Int32) (w1 : Nat) (st : List Value) (h : mr_h) (Q : Option Value → mr_h → Prop), mr_wp 55 45 [v0, .ref w1, .int x, v3, v4] st h Q = mr_wp 55 48 [v0, .ref w1, .int (x + (1)), v3, v4] st h Q) ∧
    (∀ (v0 v1 v2 : Value) (x : Int32) (w3 : Int32) (st : List Value) (h : mr_h) (Q : Option Value → mr_h → Prop), mr_wp 55 48 [v0, v1, v2, .int w3, .int x] st h Q = mr_wp 55 51 [v0, v1, v2, .int w3, .int (x + (1))] st h Q) ∧
    (∀ (v0 v1 v2 v3 v4 : Value) (st : List Value) (h : mr_h) (Q : Option Value → mr_h → Prop), mr_wp 55 51 [v0, v1, v2, v3, v4] st h Q = mr_wp 55 15 [v0, v1, v2, v3, v4] st h Q) ∧
    (∀ (v0 v1 v4 : Value) (x : Int32) (w2 : Int32) (st : List Value) (h : mr_h) (Q : Option Value → mr_h → Prop), mr_wp 55 54 [v0, v1, .int w2, .int x, v4] st h Q = mr_wp 55 57 [v0, v1, .int w2, .int (x + (1)), v4] st h Q) ∧
    (∀ (v0 v1 v2 v3 v4 : Value) (st : List Value) (h : mr_h) (Q : Option Value → mr_h → Prop), mr_wp 55 57 [v0, v1, v2, v3, v4] st h Q = mr_wp 55 4 [v0, v1, v2, v3, v4] st h Q) ∧
    (∀ (v0 v1 v3 v4 : Value) (x : Int32) (st : List Value) (h : mr_h) (Q : Option Value → mr_h → Prop), mr_wp 55 60 [v0, v1, .int x, v3, v4] st h Q = mr_wp 55 61 [v0, v1, .int x, v3, v4] (.int x :: st) h Q) ∧
    (∀ (v0 v1 v2 v3 v4 : Value) (x : Int32) (h : mr_h) (Q : Option Value → mr_h → Prop), mr_wp 55 61 [v0, v1, v2, v3, v4] [.int x] h Q = Q (some (.int x)) h) :=
  ⟨fun v0 v1 v2 v3 v4 st h Q => gx_one (i := .iconst 0) (len := 1) (by decide +kernel) rfl,
   fun v0 v2 v3 v4 w1 x st h Q => gx_one (i := .istore_n 2) (len := 1) (by decide +kernel) rfl,
   fun v0 v1 v2 v3 v4 st h Q => gx_one (i := .iconst 0) (len := 1) (by decide +kernel) rfl,
   fun v0 v1 v3 v4 w2 x st h Q => gx_one (i := .istore_n 3) (len := 1) (by decide +kernel) rfl,
   fun v0 v2 v3 v4 x st h Q => gx_one (i := .aload_n 1) (len := 1) (by decide +kernel) rfl,
   fun v0 v1 v2 v3 v4 a st h Q => gx_get (x := 32) (by decide +kernel) (by decide +kernel),
   fun v0 v1 v2 v3 v4 x y st h Q => gx_br (i := .if_icmp .ge 51) (len := 3) (c := .ge) (by decide +kernel) rfl rfl,
   fun v0 v1 v2 v3 v4 st h Q => gx_one (i := .iconst 0) (len := 1) (by decide +kernel) rfl,
   fun v0 v1 v2 v4 w3 x st h Q => gx_one (i := .istore 4) (len := 2) (by decide +kernel) rfl,
   fun v0 v2 v3 v4 x st h Q => gx_one (i := .aload_n 1) (len := 1) (by decide +kernel) rfl,
   fun v0 v1 v2 v3 v4 a st h Q => gx_get (x := 32) (by decide +kernel) (by decide +kernel),
   fun v0 v1 v2 v3 v4 x y st h Q => gx_br (i := .if_icmp .ge 33) (len := 3) (c := .ge) (by decide +kernel) rfl rfl,
   fun v0 v2 v3 v4 x st h Q => gx_one (i := .aload_n 1) (len := 1) (by decide +kernel) rfl,
   fun v0 v1 v2 v4 x st h Q => gx_one (i := .iload_n 3) (len := 1) (by decide +kernel) rfl,
   fun v0 v1 v2 v3 x st h Q => gx_one (i := .iload 4) (len := 2) (by decide +kernel) rfl,
   fun v0 v1 v2 v3 v4 a0 a1 o h Q => gx_virt (x := 36) (n := 2) (by decide +kernel) (by decide +kernel) rfl (Or.inl (Nat.le_of_ble_eq_true rfl)) (by show _ ≤ mr_mxl 38; rw [show mr_mxl 38 = 3 from by decide +kernel]; exact Nat.le_of_ble_eq_true rfl) (by decide +kernel),
   fun v0 v1 v2 v3 v4 x st h Q => gx_br (i := .ifCond .eq 17) (len := 3) (c := .eq) (by decide +kernel) rfl rfl,
   fun v1 v2 v3 v4 x st h Q => gx_one (i := .aload_n 0) (len := 1) (by decide +kernel) rfl,
   fun v0 v2 v3 v4 x st h Q => gx_one (i := .aload_n 1) (len := 1) (by decide +kernel) rfl,
   fun v0 v1 v2 v4 x st h Q => gx_one (i := .iload_n 3) (len := 1) (by decide +kernel) rfl,
   fun v0 v1 v2 v3 x st h Q => gx_one (i := .iload 4) (len := 2) (by decide +kernel) rfl,
   fun v0 v1 v2 v3 v4 a0 a1 a2 o h Q => gx_virt (x := 39) (n := 3) (by decide +kernel) (by decide +kernel) rfl (Or.inl (Nat.le_of_ble_eq_true rfl)) (by show _ ≤ mr_mxl 56; rw [show mr_mxl 56 = 4 from by decide +kernel]; exact Nat.le_of_ble_eq_true rfl) (by decide +kernel),
   fun v0 v1 v2 v3 v4 x st h Q => gx_br (i := .ifCond .eq 6) (len := 3) (c := .eq) (by decide +kernel) rfl rfl,
   fun v0 v3 v4 x w1 st h Q => gx_one (i := .iinc 2 1) (len := 3) (by decide +kernel) rfl,
   fun v0 v1 v2 x w3 st h Q => gx_one (i := .iinc 4 1) (len := 3) (by decide +kernel) rfl,
   fun v0 v1 v2 v3 v4 st h Q => gx_one (i := .goto (-36)) (len := 3) (by decide +kernel) rfl,
   fun v0 v1 v4 x w2 st h Q => gx_one (i := .iinc 3 1) (len := 3) (by decide +kernel) rfl,
   fun v0 v1 v2 v3 v4 st h Q => gx_one (i := .goto (-53)) (len := 3) (by decide +kernel) rfl,
   fun v0 v1 v3 v4 x st h Q => gx_one (i := .iload_n 2) (len := 1) (by decide +kernel) rfl,
   fun v0 v1 v2 v3 v4 x h Q => gx_ret (i := .ireturn) (len := 1) (by decide +kernel) rfl rfl (by simp only [mr_rt, if_pos]; rw [if_pos (Or.inl (by decide +kernel))])⟩
theorem S_cg_isSpare : (∀ (v0 v2 v3 : Value) (x : Nat) (st : List Value) (h : mr_h) (Q : Option Value → mr_h → Prop), mr_wp 56 0 [v0, .ref x, v2, v3] st h Q = mr_wp 56 1 [v0, .ref x, v2, v3] (.ref x :: st) h Q) ∧
    (∀ (v0 v2 v3 : Value) (x : Nat) (st : List Value) (h : mr_h) (Q : Option Value → mr_h → Prop), mr_wp 56 1 [v0, .ref x, v2, v3] st h Q = mr_wp 56 2 [v0, .ref x, v2, v3] (.ref x :: st) h Q) ∧
    (∀ (v0 v1 v2 v3 : Value) (a : Nat) (st : List Value) (h : mr_h) (Q : Option Value → mr_h → Prop), mr_wp 56 2 [v0, v1, v2, v3] (.ref a :: st) h Q = mr_gf (h.1 a) 3 1 (fun v => mr_wp 56 5 [v0, v1, v2, v3] (v :: st) h Q)) ∧
    (∀ (v0 v1 v3 : Value) (x : Int32) (st : List Value) (h : mr_h) (Q : Option Value → mr_h → Prop), mr_wp 56 5 [v0, v1, .int x, v3] st h Q = mr_wp 56 6 [v0, v1, .int x, v3] (.int x :: st) h Q) ∧
    (∀ (v0 v1 v2 v3 : Value) (a : Nat) (x : Int32) (st : List Value) (h : mr_h) (Q : Option Value → mr_h → Prop), mr_wp 56 6 [v0, v1, v2, v3] (.int x :: .ref a :: st) h Q = mr_ai (h.1 a) x (fun v => mr_wp 56 7 [v0, v1, v2, v3] (.int v :: st) h Q)) ∧
    (∀ (v0 v1 v2 : Value) (x : Int32) (st : List Value) (h : mr_h) (Q : Option Value → mr_h → Prop), mr_wp 56 7 [v0, v1, v2, .int x] st h Q = mr_wp 56 8 [v0, v1, v2, .int x] (.int x :: st) h Q) ∧
    (∀ (v0 v1 v2 v3 : Value) (a0 : Int32) (r0 : Value) (r1 : Value) (h : mr_h) (Q : Option Value → mr_h → Prop), mr_wp 56 8 [v0, v1, v2, v3] [.int a0, r0, r1] h Q = mr_run 16 [.int a0] h (fun v h' => mr_wp 56 11 [v0, v1, v2, v3] (v.toList ++ [r0, r1]) h' Q)) ∧
    (∀ (v0 v1 v2 v3 : Value) (st : List Value) (h : mr_h) (Q : Option Value → mr_h → Prop), mr_wp 56 11 [v0, v1, v2, v3] st h Q = mr_wp 56 12 [v0, v1, v2, v3] (.int (-1) :: st) h Q) ∧
    (∀ (v0 v1 v2 v3 : Value) (x : Int32) (y : Int32) (st : List Value) (h : mr_h) (Q : Option Value → mr_h → Prop), mr_wp 56 12 [v0, v1, v2, v3] (.int y :: .int x :: st) h Q = mr_wp 56 13 [v0, v1, v2, v3] (.int (x ^^^ y) :: st) h Q) ∧
    (∀ (v0 v1 v2 v3 : Value) (x : Int32) (y : Int32) (st : List Value) (h : mr_h) (Q : Option Value → mr_h → Prop), mr_wp 56 13 [v0, v1, v2, v3] (.int y :: .int x :: st) h Q = mr_wp 56 14 [v0, v1, v2, v3] (.int (x &&& y) :: st) h Q) ∧
    (∀ (v0 v1 v3 : Value) (x : Int32) (st : List Value) (h : mr_h) (Q : Option Value → mr_h → Prop), mr_wp 56 14 [v0, v1, .int x, v3] st h Q = mr_wp 56 15 [v0, v1, .int x, v3] (.int x :: st) h Q) ∧
    (∀ (v0 v1 v2 v3 : Value) (a0 : Int32) (r0 : Value) (r1 : Value) (h : mr_h) (Q : Option Value → mr_h → Prop), mr_wp 56 15 [v0, v1, v2, v3] [.int a0, r0, r1] h Q = mr_run 16 [.int a0] h (fun v h' => mr_wp 56 18 [v0, v1, v2, v3] (v.toList ++ [r0, r1]) h' Q)) ∧
    (∀ (v0 v1 v2 v3 : Value) (a0 : Int32) (a1 : Int32) (o : Nat) (h : mr_h) (Q : Option Value → mr_h → Prop), mr_wp 56 18 [v0, v1, v2, v3] [.int a1, .int a0, .ref o] h Q = mr_rc (h.1 o) 3 (mr_run 57 [.ref o, .int a0, .int a1] h (fun v h' => mr_wp 56 21 [v0, v1, v2, v3] (v.toList ++ []) h' Q))) ∧
    (∀ (v0 v1 v2 : Value) (x : Int32) (st : List Value) (h : mr_h) (Q : Option Value → mr_h → Prop), mr_wp 56 21 [v0, v1, v2, .int x] st h Q = mr_wp 56 22 [v0, v1, v2, .int x] (.int x :: st) h Q) ∧
    (∀ (v0 v1 v2 v3 : Value) (a0 : Int32) (a1 : Int32) (h : mr_h) (Q : Option Value → mr_h → Prop), mr_wp 56 22 [v0, v1, v2, v3] [.int a1, .int a0] h Q = mr_run 17 [.int a0, .int a1] h (fun v h' => mr_wp 56 25 [v0, v1, v2, v3] (v.toList ++ []) h' Q)) ∧
    (∀ (v0 v1 v2 v3 : Value) (x : Int32) (h : mr_h) (Q : Option Value → mr_h → Prop) (hv : x &&& 1 = x), mr_wp 56 25 [v0, v1, v2, v3] [.int x] h Q = Q (some (.int x)) h) :=
  ⟨fun v0 v2 v3 x st h Q => gx_one (i := .aload_n 1) (len := 1) (by decide +kernel) rfl,
   fun v0 v2 v3 x st h Q => gx_one (i := .aload_n 1) (len := 1) (by decide +kernel) rfl,
   fun v0 v1 v2 v3 a st h Q => gx_get (x := 15) (by decide +kernel) (by decide +kernel),
   fun v0 v1 v3 x st h Q => gx_one (i := .iload_n 2) (len := 1) (by decide +kernel) rfl,
   fun v0 v1 v2 v3 a x st h Q => gx_iald (by decide +kernel),
   fun v0 v1 v2 x st h Q => gx_one (i := .iload_n 3) (len := 1) (by decide +kernel) rfl,
   fun v0 v1 v2 v3 a0 r0 r1 h Q => gx_stat (x := 20) (t := 16) (n := 1) (by decide +kernel) (by decide +kernel) (by decide) (by decide +kernel) rfl (Or.inl (Nat.le_of_ble_eq_true rfl)) (by show _ ≤ mr_mxl 16; rw [show mr_mxl 16 = 1 from by decide +kernel]; exact Nat.le_of_ble_eq_true rfl),
   fun v0 v1 v2 v3 st h Q => gx_one (i := .iconst (-1)) (len := 1) (by decide +kernel) rfl,
   fun v0 v1 v2 v3 x y st h Q => gx_one (i := .ixor) (len := 1) (by decide +kernel) rfl,
   fun v0 v1 v2 v3 x y st h Q => gx_one (i := .iand) (len := 1) (by decide +kernel) rfl,
   fun v0 v1 v3 x st h Q => gx_one (i := .iload_n 2) (len := 1) (by decide +kernel) rfl,
   fun v0 v1 v2 v3 a0 r0 r1 h Q => gx_stat (x := 20) (t := 16) (n := 1) (by decide +kernel) (by decide +kernel) (by decide) (by decide +kernel) rfl (Or.inl (Nat.le_of_ble_eq_true rfl)) (by show _ ≤ mr_mxl 16; rw [show mr_mxl 16 = 1 from by decide +kernel]; exact Nat.le_of_ble_eq_true rfl),
   fun v0 v1 v2 v3 a0 a1 o h Q => gx_virt (x := 24) (n := 2) (by decide +kernel) (by decide +kernel) rfl (Or.inl (Nat.le_of_ble_eq_true rfl)) (by show _ ≤ mr_mxl 57; rw [show mr_mxl 57 = 7 from by decide +kernel]; exact Nat.le_of_ble_eq_true rfl) (by decide +kernel),
   fun v0 v1 v2 x st h Q => gx_one (i := .iload_n 3) (len := 1) (by decide +kernel) rfl,
   fun v0 v1 v2 v3 a0 a1 h Q => gx_stat (x := 28) (t := 17) (n := 2) (by decide +kernel) (by decide +kernel) (by decide) (by decide +kernel) rfl (Or.inl (Nat.le_of_ble_eq_true rfl)) (by show _ ≤ mr_mxl 17; rw [show mr_mxl 17 = 2 from by decide +kernel]; exact Nat.le_of_ble_eq_true rfl),
   fun v0 v1 v2 v3 x h Q hv => gx_ret (i := .ireturn) (len := 1) (by decide +kernel) rfl rfl (by simp only [mr_rt, if_pos]; rw [if_pos (Or.inr ⟨by decide +kernel, hv⟩)])⟩
theorem s_ne_spread_9 (v0 v1 v2 v3 v5 v6 : Value) (x : Int32) (st : List Value) (h : mr_h) (Q : Option Value → mr_h → Prop) : mr_wp 57 9 [v0, v1, v2, v3, .int x, v5, v6] st h Q = mr_wp 57 11 [v0, v1, v2, v3, .int x, v5, v6] (.int x :: st) h Q := gx_one (i := .iload 4) (len := 2) (by decide +kernel) rfl
theorem s_ne_spread_24 (v0 v1 v2 v3 v4 v5 : Value) (x : Int32) (st : List Value) (h : mr_h) (Q : Option Value → mr_h → Prop) : mr_wp 57 24 [v0, v1, v2, v3, v4, v5, .int x] st h Q = mr_wp 57 26 [v0, v1, v2, v3, v4, v5, .int x] (.int x :: st) h Q := gx_one (i := .iload 6) (len := 2) (by decide +kernel) rfl
theorem S_ne_spread_0 : (∀ (v0 v2 v3 v4 v5 v6 : Value) (x : Int32) (st : List Value) (h : mr_h) (Q : Option Value → mr_h → Prop), mr_wp 57 0 [v0, .int x, v2, v3, v4, v5, v6] st h Q = mr_wp 57 1 [v0, .int x, v2, v3, v4, v5, v6] (.int x :: st) h Q) ∧
    (∀ (v0 v1 v3 v4 v5 v6 : Value) (x : Int32) (st : List Value) (h : mr_h) (Q : Option Value → mr_h → Prop), mr_wp 57 1 [v0, v1, .int x, v3, v4, v5, v6] st h Q = mr_wp 57 2 [v0, v1, .int x, v3, v4, v5, v6] (.int x :: st) h Q) ∧
    (∀ (v0 v1 v2 v3 v4 v5 v6 : Value) (st : List Value) (h : mr_h) (Q : Option Value → mr_h → Prop), mr_wp 57 2 [v0, v1, v2, v3, v4, v5, v6] st h Q = mr_wp 57 3 [v0, v1, v2, v3, v4, v5, v6] (.int (-1) :: st) h Q) ∧
    (∀ (v0 v1 v2 v3 v4 v5 v6 : Value) (x : Int32) (y : Int32) (st : List Value) (h : mr_h) (Q : Option Value → mr_h → Prop), mr_wp 57 3 [v0, v1, v2, v3, v4, v5, v6] (.int y :: .int x :: st) h Q = mr_wp 57 4 [v0, v1, v2, v3, v4, v5, v6] (.int (x ^^^ y) :: st) h Q) ∧
    (∀ (v0 v1 v2 v3 v4 v5 v6 : Value) (x : Int32) (y : Int32) (st : List Value) (h : mr_h) (Q : Option Value → mr_h → Prop), mr_wp 57 4 [v0, v1, v2, v3, v4, v5, v6] (.int y :: .int x :: st) h Q = mr_wp 57 5 [v0, v1, v2, v3, v4, v5, v6] (.int (x &&& y) :: st) h Q) ∧
    (∀ (v0 v1 v3 v4 v5 v6 : Value) (w2 : Int32) (x : Int32) (st : List Value) (h : mr_h) (Q : Option Value → mr_h → Prop), mr_wp 57 5 [v0, v1, .int w2, v3, v4, v5, v6] (.int x :: st) h Q = mr_wp 57 6 [v0, v1, .int w2, .int x, v4, v5, v6] st h Q) ∧
    (∀ (v0 v1 v2 v3 v4 v5 v6 : Value) (st : List Value) (h : mr_h) (Q : Option Value → mr_h → Prop), mr_wp 57 6 [v0, v1, v2, v3, v4, v5, v6] st h Q = mr_wp 57 7 [v0, v1, v2, v3, v4, v5, v6] (.int (0) :: st) h Q) ∧
    (∀ (v0 v1 v2 v4 v5 v6 : Value) (w3 : Int32) (x : Int32) (st : List Value) (h : mr_h) (Q : Option Value → mr_h → Prop), mr_wp 57 7 [v0, v1, v2, .int w3, v4, v5, v6] (.int x :: st) h Q = mr_wp 57 9 [v0, v1, v2, .int w3, .int x, v5, v6] st h Q) ∧
    (∀ (v1 v2 v3 v4 v5 v6 : Value) (x : Nat) (st : List Value) (h : mr_h) (Q : Option Value → mr_h → Prop), mr_wp 57 11 [.ref x, v1, v2, v3, v4, v5, v6] st h Q = mr_wp 57 12 [.ref x, v1, v2, v3, v4, v5, v6] (.ref x :: st) h Q) ∧
    (∀ (v0 v1 v2 v3 v4 v5 v6 : Value) (a : Nat) (st : List Value) (h : mr_h) (Q : Option Value → mr_h → Prop), mr_wp 57 12 [v0, v1, v2, v3, v4, v5, v6] (.ref a :: st) h Q = mr_gf (h.1 a) 3 0 (fun v => mr_wp 57 15 [v0, v1, v2, v3, v4, v5, v6] (v :: st) h Q)) ∧
    (∀ (v0 v1 v2 v3 v4 v5 v6 : Value) (x : Int32) (y : Int32) (st : List Value) (h : mr_h) (Q : Option Value → mr_h → Prop), mr_wp 57 15 [v0, v1, v2, v3, v4, v5, v6] (.int y :: .int x :: st) h Q = if y ≤ x then mr_wp 57 86 [v0, v1, v2, v3, v4, v5, v6] st h Q else mr_wp 57 18 [v0, v1, v2, v3, v4, v5, v6] st h Q) ∧
    (∀ (v0 v1 v2 v4 v5 v6 : Value) (x : Int32) (st : List Value) (h : mr_h) (Q : Option Value → mr_h → Prop), mr_wp 57 18 [v0, v1, v2, .int x, v4, v5, v6] st h Q = mr_wp 57 19 [v0, v1, v2, .int x, v4, v5, v6] (.int x :: st) h Q) ∧
    (∀ (v0 v1 v2 v3 v5 v6 : Value) (w4 : Int32) (x : Int32) (st : List Value) (h : mr_h) (Q : Option Value → mr_h → Prop), mr_wp 57 19 [v0, v1, v2, v3, .int w4, v5, v6] (.int x :: st) h Q = mr_wp 57 21 [v0, v1, v2, v3, .int w4, .int x, v6] st h Q) ∧
    (∀ (v0 v1 v2 v3 v4 v5 v6 : Value) (st : List Value) (h : mr_h) (Q : Option Value → mr_h → Prop), mr_wp 57 21 [v0, v1, v2, v3, v4, v5, v6] st h Q = mr_wp 57 22 [v0, v1, v2, v3, v4, v5, v6] (.int (0) :: st) h Q) ∧
    (∀ (v0 v1 v2 v3 v4 v6 : Value) (w5 : Int32) (x : Int32) (st : List Value) (h : mr_h) (Q : Option Value → mr_h → Prop), mr_wp 57 22 [v0, v1, v2, v3, v4, .int w5, v6] (.int x :: st) h Q = mr_wp 57 24 [v0, v1, v2, v3, v4, .int w5, .int x] st h Q) ∧
    (∀ (v1 v2 v3 v4 v5 v6 : Value) (x : Nat) (st : List Value) (h : mr_h) (Q : Option Value → mr_h → Prop), mr_wp 57 26 [.ref x, v1, v2, v3, v4, v5, v6] st h Q = mr_wp 57 27 [.ref x, v1, v2, v3, v4, v5, v6] (.ref x :: st) h Q) ∧
    (∀ (v0 v1 v2 v3 v4 v5 v6 : Value) (a : Nat) (st : List Value) (h : mr_h) (Q : Option Value → mr_h → Prop), mr_wp 57 27 [v0, v1, v2, v3, v4, v5, v6] (.ref a :: st) h Q = mr_gf (h.1 a) 3 0 (fun v => mr_wp 57 30 [v0, v1, v2, v3, v4, v5, v6] (v :: st) h Q)) ∧
    (∀ (v0 v1 v2 v3 v4 v5 v6 : Value) (x : Int32) (y : Int32) (st : List Value) (h : mr_h) (Q : Option Value → mr_h → Prop), mr_wp 57 30 [v0, v1, v2, v3, v4, v5, v6] (.int y :: .int x :: st) h Q = if y ≤ x then mr_wp 57 60 [v0, v1, v2, v3, v4, v5, v6] st h Q else mr_wp 57 33 [v0, v1, v2, v3, v4, v5, v6] st h Q) ∧
    (∀ (v0 v1 v2 v4 v5 v6 : Value) (x : Int32) (st : List Value) (h : mr_h) (Q : Option Value → mr_h → Prop), mr_wp 57 33 [v0, v1, v2, .int x, v4, v5, v6] st h Q = mr_wp 57 34 [v0, v1, v2, .int x, v4, v5, v6] (.int x :: st) h Q) ∧
    (∀ (v0 v1 v2 v3 v4 v5 : Value) (x : Int32) (st : List Value) (h : mr_h) (Q : Option Value → mr_h → Prop), mr_wp 57 34 [v0, v1, v2, v3, v4, v5, .int x] st h Q = mr_wp 57 36 [v0, v1, v2, v3, v4, v5, .int x] (.int x :: st) h Q) ∧
    (∀ (v0 v1 v2 v3 v4 v5 v6 : Value) (a0 : Int32) (a1 : Int32) (h : mr_h) (Q : Option Value → mr_h → Prop), mr_wp 57 36 [v0, v1, v2, v3, v4, v5, v6] [.int a1, .int a0] h Q = mr_run 17 [.int a0, .int a1] h (fun v h' => mr_wp 57 39 [v0, v1, v2, v3, v4, v5, v6] (v.toList ++ []) h' Q)) ∧
    (∀ (v0 v1 v2 v3 v4 v5 v6 : Value) (x : Int32) (st : List Value) (h : mr_h) (Q : Option Value → mr_h → Prop), mr_wp 57 39 [v0, v1, v2, v3, v4, v5, v6] (.int x :: st) h Q = if x = 0 then mr_wp 57 54 [v0, v1, v2, v3, v4, v5, v6] st h Q else mr_wp 57 42 [v0, v1, v2, v3, v4, v5, v6] st h Q) ∧
    (∀ (v0 v1 v2 v3 v4 v6 : Value) (x : Int32) (st : List Value) (h : mr_h) (Q : Option Value → mr_h → Prop), mr_wp 57 42 [v0, v1, v2, v3, v4, .int x, v6] st h Q = mr_wp 57 44 [v0, v1, v2, v3, v4, .int x, v6] (.int x :: st) h Q) ∧
    (∀ (v1 v2 v3 v4 v5 v6 : Value) (x : Nat) (st : List Value) (h : mr_h) (Q : Option Value → mr_h → Prop), mr_wp 57 44 [.ref x, v1, v2, v3, v4, v5, v6] st h Q = mr_wp 57 45 [.ref x, v1, v2, v3, v4, v5, v6] (.ref x :: st) h Q) ∧
    (∀ (v0 v1 v2 v3 v4 v5 v6 : Value) (a : Nat) (st : List Value) (h : mr_h) (Q : Option Value → mr_h → Prop), mr_wp 57 45 [v0, v1, v2, v3, v4, v5, v6] (.ref a :: st) h Q = mr_gf (h.1 a) 3 1 (fun v => mr_wp 57 48 [v0, v1, v2, v3, v4, v5, v6] (v :: st) h Q)) ∧
    (∀ (v0 v1 v2 v3 v4 v5 : Value) (x : Int32) (st : List Value) (h : mr_h) (Q : Option Value → mr_h → Prop), mr_wp 57 48 [v0, v1, v2, v3, v4, v5, .int x] st h Q = mr_wp 57 50 [v0, v1, v2, v3, v4, v5, .int x] (.int x :: st) h Q) ∧
    (∀ (v0 v1 v2 v3 v4 v5 v6 : Value) (a : Nat) (x : Int32) (st : List Value) (h : mr_h) (Q : Option Value → mr_h → Prop), mr_wp 57 50 [v0, v1, v2, v3, v4, v5, v6] (.int x :: .ref a :: st) h Q = mr_ai (h.1 a) x (fun v => mr_wp 57 51 [v0, v1, v2, v3, v4, v5, v6] (.int v :: st) h Q)) ∧
    (∀ (v0 v1 v2 v3 v4 v5 v6 : Value) (x : Int32) (y : Int32) (st : List Value) (h : mr_h) (Q : Option Value → mr_h → Prop), mr_wp 57 51 [v0, v1, v2, v3, v4, v5, v6] (.int y :: .int x :: st) h Q = mr_wp 57 52 [v0, v1, v2, v3, v4, v5, v6] (.int (x ||| y) :: st) h Q) ∧
    (∀ (v0 v1 v2 v3 v5 v6 : Value) (w4 : Int32) (x : Int32) (st : List Value) (h : mr_h) (Q : Option Value → mr_h → Prop), mr_wp 57 52 [v0, v1, v2, v3, .int w4, v5, v6] (.int x :: st) h Q = mr_wp 57 54 [v0, v1, v2, v3, .int w4, .int x, v6] st h Q) ∧
    (∀ (v0 v1 v2 v3 v4 : Value) (x : Int32) (w5 : Int32) (st : List Value) (h : mr_h) (Q : Option Value → mr_h → Prop), mr_wp 57 54 [v0, v1, v2, v3, v4, .int w5, .int x] st h Q = mr_wp 57 57 [v0, v1, v2, v3, v4, .int w5, .int (x + (1))] st h Q) ∧
    (∀ (v0 v1 v2 v3 v4 v5 v6 : Value) (st : List Value) (h : mr_h) (Q : Option Value → mr_h → Prop), mr_wp 57 57 [v0, v1, v2, v3, v4, v5, v6] st h Q = mr_wp 57 24 [v0, v1, v2, v3, v4, v5, v6] st h Q) ∧
    (∀ (v0 v1 v2 v3 v4 v6 : Value) (x : Int32) (st : List Value) (h : mr_h) (Q : Option Value → mr_h → Prop), mr_wp 57 60 [v0, v1, v2, v3, v4, .int x, v6] st h Q = mr_wp 57 62 [v0, v1, v2, v3, v4, .int x, v6] (.int x :: st) h Q) ∧
    (∀ (v0 v1 v3 v4 v5 v6 : Value) (x : Int32) (st : List Value) (h : mr_h) (Q : Option Value → mr_h → Prop), mr_wp 57 62 [v0, v1, .int x, v3, v4, v5, v6] st h Q = mr_wp 57 63 [v0, v1, .int x, v3, v4, v5, v6] (.int x :: st) h Q) ∧
    (∀ (v0 v1 v2 v3 v4 v5 v6 : Value) (st : List Value) (h : mr_h) (Q : Option Value → mr_h → Prop), mr_wp 57 63 [v0, v1, v2, v3, v4, v5, v6] st h Q = mr_wp 57 64 [v0, v1, v2, v3, v4, v5, v6] (.int (-1) :: st) h Q) ∧
    (∀ (v0 v1 v2 v3 v4 v5 v6 : Value) (x : Int32) (y : Int32) (st : List Value) (h : mr_h) (Q : Option Value → mr_h → Prop), mr_wp 57 64 [v0, v1, v2, v3, v4, v5, v6] (.int y :: .int x :: st) h Q = mr_wp 57 65 [v0, v1, v2, v3, v4, v5, v6] (.int (x ^^^ y) :: st) h Q) ∧
    (∀ (v0 v1 v2 v3 v4 v5 v6 : Value) (x : Int32) (y : Int32) (st : List Value) (h : mr_h) (Q : Option Value → mr_h → Prop), mr_wp 57 65 [v0, v1, v2, v3, v4, v5, v6] (.int y :: .int x :: st) h Q = mr_wp 57 66 [v0, v1, v2, v3, v4, v5, v6] (.int (x &&& y) :: st) h Q) ∧
    (∀ (v0 v1 v2 v3 v5 v6 : Value) (w4 : Int32) (x : Int32) (st : List Value) (h : mr_h) (Q : Option Value → mr_h → Prop), mr_wp 57 66 [v0, v1, v2, v3, .int w4, v5, v6] (.int x :: st) h Q = mr_wp 57 68 [v0, v1, v2, v3, .int w4, .int x, v6] st h Q) ∧
    (∀ (v0 v1 v2 v3 v4 v6 : Value) (x : Int32) (st : List Value) (h : mr_h) (Q : Option Value → mr_h → Prop), mr_wp 57 68 [v0, v1, v2, v3, v4, .int x, v6] st h Q = mr_wp 57 70 [v0, v1, v2, v3, v4, .int x, v6] (.int x :: st) h Q) ∧
    (∀ (v0 v1 v2 v4 v5 v6 : Value) (x : Int32) (st : List Value) (h : mr_h) (Q : Option Value → mr_h → Prop), mr_wp 57 70 [v0, v1, v2, .int x, v4, v5, v6] st h Q = mr_wp 57 71 [v0, v1, v2, .int x, v4, v5, v6] (.int x :: st) h Q) ∧
    (∀ (v0 v1 v2 v3 v4 v5 v6 : Value) (x : Int32) (y : Int32) (st : List Value) (h : mr_h) (Q : Option Value → mr_h → Prop), mr_wp 57 71 [v0, v1, v2, v3, v4, v5, v6] (.int y :: .int x :: st) h Q = if ¬ x = y then mr_wp 57 77 [v0, v1, v2, v3, v4, v5, v6] st h Q else mr_wp 57 74 [v0, v1, v2, v3, v4, v5, v6] st h Q) :=
  ⟨fun v0 v2 v3 v4 v5 v6 x st h Q => gx_one (i := .iload_n 1) (len := 1) (by decide +kernel) rfl,
   fun v0 v1 v3 v4 v5 v6 x st h Q => gx_one (i := .iload_n 2) (len := 1) (by decide +kernel) rfl,
   fun v0 v1 v2 v3 v4 v5 v6 st h Q => gx_one (i := .iconst (-1)) (len := 1) (by decide +kernel) rfl,
   fun v0 v1 v2 v3 v4 v5 v6 x y st h Q => gx_one (i := .ixor) (len := 1) (by decide +kernel) rfl,
   fun v0 v1 v2 v3 v4 v5 v6 x y st h Q => gx_one (i := .iand) (len := 1) (by decide +kernel) rfl,
   fun v0 v1 v3 v4 v5 v6 w2 x st h Q => gx_one (i := .istore_n 3) (len := 1) (by decide +kernel) rfl,
   fun v0 v1 v2 v3 v4 v5 v6 st h Q => gx_one (i := .iconst 0) (len := 1) (by decide +kernel) rfl,
   fun v0 v1 v2 v4 v5 v6 w3 x st h Q => gx_one (i := .istore 4) (len := 2) (by decide +kernel) rfl,
   fun v1 v2 v3 v4 v5 v6 x st h Q => gx_one (i := .aload_n 0) (len := 1) (by decide +kernel) rfl,
   fun v0 v1 v2 v3 v4 v5 v6 a st h Q => gx_get (x := 25) (by decide +kernel) (by decide +kernel),
   fun v0 v1 v2 v3 v4 v5 v6 x y st h Q => gx_br (i := .if_icmp .ge 71) (len := 3) (c := .ge) (by decide +kernel) rfl rfl,
   fun v0 v1 v2 v4 v5 v6 x st h Q => gx_one (i := .iload_n 3) (len := 1) (by decide +kernel) rfl,
   fun v0 v1 v2 v3 v5 v6 w4 x st h Q => gx_one (i := .istore 5) (len := 2) (by decide +kernel) rfl,
   fun v0 v1 v2 v3 v4 v5 v6 st h Q => gx_one (i := .iconst 0) (len := 1) (by decide +kernel) rfl,
   fun v0 v1 v2 v3 v4 v6 w5 x st h Q => gx_one (i := .istore 6) (len := 2) (by decide +kernel) rfl,
   fun v1 v2 v3 v4 v5 v6 x st h Q => gx_one (i := .aload_n 0) (len := 1) (by decide +kernel) rfl,
   fun v0 v1 v2 v3 v4 v5 v6 a st h Q => gx_get (x := 25) (by decide +kernel) (by decide +kernel),
   fun v0 v1 v2 v3 v4 v5 v6 x y st h Q => gx_br (i := .if_icmp .ge 30) (len := 3) (c := .ge) (by decide +kernel) rfl rfl,
   fun v0 v1 v2 v4 v5 v6 x st h Q => gx_one (i := .iload_n 3) (len := 1) (by decide +kernel) rfl,
   fun v0 v1 v2 v3 v4 v5 x st h Q => gx_one (i := .iload 6) (len := 2) (by decide +kernel) rfl,
   fun v0 v1 v2 v3 v4 v5 v6 a0 a1 h Q => gx_stat (x := 39) (t := 17) (n := 2) (by decide +kernel) (by decide +kernel) (by decide) (by decide +kernel) rfl (Or.inl (Nat.le_of_ble_eq_true rfl)) (by show _ ≤ mr_mxl 17; rw [show mr_mxl 17 = 2 from by decide +kernel]; exact Nat.le_of_ble_eq_true rfl),
   fun v0 v1 v2 v3 v4 v5 v6 x st h Q => gx_br (i := .ifCond .eq 15) (len := 3) (c := .eq) (by decide +kernel) rfl rfl,
   fun v0 v1 v2 v3 v4 v6 x st h Q => gx_one (i := .iload 5) (len := 2) (by decide +kernel) rfl,
   fun v1 v2 v3 v4 v5 v6 x st h Q => gx_one (i := .aload_n 0) (len := 1) (by decide +kernel) rfl,
   fun v0 v1 v2 v3 v4 v5 v6 a st h Q => gx_get (x := 9) (by decide +kernel) (by decide +kernel),
   fun v0 v1 v2 v3 v4 v5 x st h Q => gx_one (i := .iload 6) (len := 2) (by decide +kernel) rfl,
   fun v0 v1 v2 v3 v4 v5 v6 a x st h Q => gx_iald (by decide +kernel),
   fun v0 v1 v2 v3 v4 v5 v6 x y st h Q => gx_one (i := .ior) (len := 1) (by decide +kernel) rfl,
   fun v0 v1 v2 v3 v5 v6 w4 x st h Q => gx_one (i := .istore 5) (len := 2) (by decide +kernel) rfl,
   fun v0 v1 v2 v3 v4 x w5 st h Q => gx_one (i := .iinc 6 1) (len := 3) (by decide +kernel) rfl,
   fun v0 v1 v2 v3 v4 v5 v6 st h Q => gx_one (i := .goto (-33)) (len := 3) (by decide +kernel) rfl,
   fun v0 v1 v2 v3 v4 v6 x st h Q => gx_one (i := .iload 5) (len := 2) (by decide +kernel) rfl,
   fun v0 v1 v3 v4 v5 v6 x st h Q => gx_one (i := .iload_n 2) (len := 1) (by decide +kernel) rfl,
   fun v0 v1 v2 v3 v4 v5 v6 st h Q => gx_one (i := .iconst (-1)) (len := 1) (by decide +kernel) rfl,
   fun v0 v1 v2 v3 v4 v5 v6 x y st h Q => gx_one (i := .ixor) (len := 1) (by decide +kernel) rfl,
   fun v0 v1 v2 v3 v4 v5 v6 x y st h Q => gx_one (i := .iand) (len := 1) (by decide +kernel) rfl,
   fun v0 v1 v2 v3 v5 v6 w4 x st h Q => gx_one (i := .istore 5) (len := 2) (by decide +kernel) rfl,
   fun v0 v1 v2 v3 v4 v6 x st h Q => gx_one (i := .iload 5) (len := 2) (by decide +kernel) rfl,
   fun v0 v1 v2 v4 v5 v6 x st h Q => gx_one (i := .iload_n 3) (len := 1) (by decide +kernel) rfl,
   fun v0 v1 v2 v3 v4 v5 v6 x y st h Q => gx_br (i := .if_icmp .ne 6) (len := 3) (c := .ne) (by decide +kernel) rfl rfl⟩
theorem S_ne_spread_1 : (∀ (v0 v1 v2 v3 v4 v5 v6 : Value) (st : List Value) (h : mr_h) (Q : Option Value → mr_h → Prop), mr_wp 57 74 [v0, v1, v2, v3, v4, v5, v6] st h Q = mr_wp 57 86 [v0, v1, v2, v3, v4, v5, v6] st h Q) ∧
    (∀ (v0 v1 v2 v3 v4 v6 : Value) (x : Int32) (st : List Value) (h : mr_h) (Q : Option Value → mr_h → Prop), mr_wp 57 77 [v0, v1, v2, v3, v4, .int x, v6] st h Q = mr_wp 57 79 [v0, v1, v2, v3, v4, .int x, v6] (.int x :: st) h Q) ∧
    (∀ (v0 v1 v3 v4 v5 v6 : Value) (w2 : Int32) (x : Int32) (st : List Value) (h : mr_h) (Q : Option Value → mr_h → Prop), mr_wp 57 79 [v0, v1, .int w2, v3, v4, v5, v6] (.int x :: st) h Q = mr_wp 57 80 [v0, v1, .int w2, .int x, v4, v5, v6] st h Q) ∧
    (∀ (v0 v1 v2 v5 v6 : Value) (x : Int32) (w3 : Int32) (st : List Value) (h : mr_h) (Q : Option Value → mr_h → Prop), mr_wp 57 80 [v0, v1, v2, .int w3, .int x, v5, v6] st h Q = mr_wp 57 83 [v0, v1, v2, .int w3, .int (x + (1)), v5, v6] st h Q) ∧
    (∀ (v0 v1 v2 v3 v4 v5 v6 : Value) (st : List Value) (h : mr_h) (Q : Option Value → mr_h → Prop), mr_wp 57 83 [v0, v1, v2, v3, v4, v5, v6] st h Q = mr_wp 57 9 [v0, v1, v2, v3, v4, v5, v6] st h Q) ∧
    (∀ (v0 v1 v2 v4 v5 v6 : Value) (x : Int32) (st : List Value) (h : mr_h) (Q : Option Value → mr_h → Prop), mr_wp 57 86 [v0, v1, v2, .int x, v4, v5, v6] st h Q = mr_wp 57 87 [v0, v1, v2, .int x, v4, v5, v6] (.int x :: st) h Q) ∧
    (∀ (v0 v1 v2 v3 v4 v5 v6 : Value) (x : Int32) (h : mr_h) (Q : Option Value → mr_h → Prop), mr_wp 57 87 [v0, v1, v2, v3, v4, v5, v6] [.int x] h Q = Q (some (.int x)) h) :=
  ⟨fun v0 v1 v2 v3 v4 v5 v6 st h Q => gx_one (i := .goto 12) (len := 3) (by decide +kernel) rfl,
   fun v0 v1 v2 v3 v4 v6 x st h Q => gx_one (i := .iload 5) (len := 2) (by decide +kernel) rfl,
   fun v0 v1 v3 v4 v5 v6 w2 x st h Q => gx_one (i := .istore_n 3) (len := 1) (by decide +kernel) rfl,
   fun v0 v1 v2 v5 v6 x w3 st h Q => gx_one (i := .iinc 4 1) (len := 3) (by decide +kernel) rfl,
   fun v0 v1 v2 v3 v4 v5 v6 st h Q => gx_one (i := .goto (-74)) (len := 3) (by decide +kernel) rfl,
   fun v0 v1 v2 v4 v5 v6 x st h Q => gx_one (i := .iload_n 3) (len := 1) (by decide +kernel) rfl,
   fun v0 v1 v2 v3 v4 v5 v6 x h Q => gx_ret (i := .ireturn) (len := 1) (by decide +kernel) rfl rfl (by simp only [mr_rt, if_pos]; rw [if_pos (Or.inl (by decide +kernel))])⟩

theorem s_re_lone_16 (v0 v1 v2 : Value) (x : Int32) (st : List Value) (h : mr_h) (Q : Option Value → mr_h → Prop) : mr_wp 58 16 [v0, v1, v2, .int x] st h Q = mr_wp 58 17 [v0, v1, v2, .int x] (.int x :: st) h Q := gx_one (i := .iload_n 3) (len := 1) (by decide +kernel) rfl
theorem S_re_lone_0 : (∀ (v1 v2 v3 : Value) (x : Nat) (st : List Value) (h : mr_h) (Q : Option Value → mr_h → Prop), mr_wp 58 0 [.ref x, v1, v2, v3] st h Q = mr_wp 58 1 [.ref x, v1, v2, v3] (.ref x :: st) h Q) ∧
    (∀ (v0 v1 v2 v3 : Value) (o : Nat) (h : mr_h) (Q : Option Value → mr_h → Prop), mr_wp 58 1 [v0, v1, v2, v3] [.ref o] h Q = mr_rc (h.1 o) 6 (mr_run 51 [.ref o] h (fun v h' => mr_wp 58 4 [v0, v1, v2, v3] (v.toList ++ []) h' Q))) ∧
    (∀ (v0 v1 v2 v3 : Value) (st : List Value) (h : mr_h) (Q : Option Value → mr_h → Prop), mr_wp 58 4 [v0, v1, v2, v3] st h Q = mr_wp 58 5 [v0, v1, v2, v3] (.int (1) :: st) h Q) ∧
    (∀ (v0 v1 v2 v3 : Value) (x : Int32) (y : Int32) (st : List Value) (h : mr_h) (Q : Option Value → mr_h → Prop), mr_wp 58 5 [v0, v1, v2, v3] (.int y :: .int x :: st) h Q = if ¬ x = y then mr_wp 58 10 [v0, v1, v2, v3] st h Q else mr_wp 58 8 [v0, v1, v2, v3] st h Q) ∧
    (∀ (v0 v1 v2 v3 : Value) (st : List Value) (h : mr_h) (Q : Option Value → mr_h → Prop), mr_wp 58 8 [v0, v1, v2, v3] st h Q = mr_wp 58 9 [v0, v1, v2, v3] (.int (0) :: st) h Q) ∧
    (∀ (v0 v1 v2 v3 : Value) (x : Int32) (h : mr_h) (Q : Option Value → mr_h → Prop), mr_wp 58 9 [v0, v1, v2, v3] [.int x] h Q = Q (some (.int x)) h) ∧
    (∀ (v0 v1 v2 v3 : Value) (st : List Value) (h : mr_h) (Q : Option Value → mr_h → Prop), mr_wp 58 10 [v0, v1, v2, v3] st h Q = mr_wp 58 11 [v0, v1, v2, v3] (.int (0) :: st) h Q) ∧
    (∀ (v1 v2 v3 : Value) (w0 : Nat) (x : Int32) (st : List Value) (h : mr_h) (Q : Option Value → mr_h → Prop), mr_wp 58 11 [.ref w0, v1, v2, v3] (.int x :: st) h Q = mr_wp 58 12 [.ref w0, .int x, v2, v3] st h Q) ∧
    (∀ (v0 v1 v2 v3 : Value) (st : List Value) (h : mr_h) (Q : Option Value → mr_h → Prop), mr_wp 58 12 [v0, v1, v2, v3] st h Q = mr_wp 58 13 [v0, v1, v2, v3] (.int (0) :: st) h Q) ∧
    (∀ (v0 v2 v3 : Value) (w1 : Int32) (x : Int32) (st : List Value) (h : mr_h) (Q : Option Value → mr_h → Prop), mr_wp 58 13 [v0, .int w1, v2, v3] (.int x :: st) h Q = mr_wp 58 14 [v0, .int w1, .int x, v3] st h Q) ∧
    (∀ (v0 v1 v2 v3 : Value) (st : List Value) (h : mr_h) (Q : Option Value → mr_h → Prop), mr_wp 58 14 [v0, v1, v2, v3] st h Q = mr_wp 58 15 [v0, v1, v2, v3] (.int (0) :: st) h Q) ∧
    (∀ (v0 v1 v3 : Value) (w2 : Int32) (x : Int32) (st : List Value) (h : mr_h) (Q : Option Value → mr_h → Prop), mr_wp 58 15 [v0, v1, .int w2, v3] (.int x :: st) h Q = mr_wp 58 16 [v0, v1, .int w2, .int x] st h Q) ∧
    (∀ (v1 v2 v3 : Value) (x : Nat) (st : List Value) (h : mr_h) (Q : Option Value → mr_h → Prop), mr_wp 58 17 [.ref x, v1, v2, v3] st h Q = mr_wp 58 18 [.ref x, v1, v2, v3] (.ref x :: st) h Q) ∧
    (∀ (v0 v1 v2 v3 : Value) (a : Nat) (st : List Value) (h : mr_h) (Q : Option Value → mr_h → Prop), mr_wp 58 18 [v0, v1, v2, v3] (.ref a :: st) h Q = mr_gf (h.1 a) 6 8 (fun v => mr_wp 58 21 [v0, v1, v2, v3] (v :: st) h Q)) ∧
    (∀ (v0 v1 v2 v3 : Value) (x : Int32) (y : Int32) (st : List Value) (h : mr_h) (Q : Option Value → mr_h → Prop), mr_wp 58 21 [v0, v1, v2, v3] (.int y :: .int x :: st) h Q = if y ≤ x then mr_wp 58 85 [v0, v1, v2, v3] st h Q else mr_wp 58 24 [v0, v1, v2, v3] st h Q) ∧
    (∀ (v1 v2 v3 : Value) (x : Nat) (st : List Value) (h : mr_h) (Q : Option Value → mr_h → Prop), mr_wp 58 24 [.ref x, v1, v2, v3] st h Q = mr_wp 58 25 [.ref x, v1, v2, v3] (.ref x :: st) h Q) ∧
    (∀ (v0 v1 v2 v3 : Value) (a : Nat) (st : List Value) (h : mr_h) (Q : Option Value → mr_h → Prop), mr_wp 58 25 [v0, v1, v2, v3] (.ref a :: st) h Q = mr_gf (h.1 a) 6 9 (fun v => mr_wp 58 28 [v0, v1, v2, v3] (v :: st) h Q)) ∧
    (∀ (v0 v1 v2 : Value) (x : Int32) (st : List Value) (h : mr_h) (Q : Option Value → mr_h → Prop), mr_wp 58 28 [v0, v1, v2, .int x] st h Q = mr_wp 58 29 [v0, v1, v2, .int x] (.int x :: st) h Q) ∧
    (∀ (v0 v1 v2 v3 : Value) (a0 : Int32) (a1 : Int32) (h : mr_h) (Q : Option Value → mr_h → Prop), mr_wp 58 29 [v0, v1, v2, v3] [.int a1, .int a0] h Q = mr_run 17 [.int a0, .int a1] h (fun v h' => mr_wp 58 32 [v0, v1, v2, v3] (v.toList ++ []) h' Q)) ∧
    (∀ (v0 v1 v2 v3 : Value) (x : Int32) (st : List Value) (h : mr_h) (Q : Option Value → mr_h → Prop), mr_wp 58 32 [v0, v1, v2, v3] (.int x :: st) h Q = if x = 0 then mr_wp 58 79 [v0, v1, v2, v3] st h Q else mr_wp 58 35 [v0, v1, v2, v3] st h Q) ∧
    (∀ (v0 v2 v3 : Value) (x : Int32) (st : List Value) (h : mr_h) (Q : Option Value → mr_h → Prop), mr_wp 58 35 [v0, .int x, v2, v3] st h Q = mr_wp 58 36 [v0, .int x, v2, v3] (.int x :: st) h Q) ∧
    (∀ (v1 v2 v3 : Value) (x : Nat) (st : List Value) (h : mr_h) (Q : Option Value → mr_h → Prop), mr_wp 58 36 [.ref x, v1, v2, v3] st h Q = mr_wp 58 37 [.ref x, v1, v2, v3] (.ref x :: st) h Q) ∧
    (∀ (v0 v1 v2 v3 : Value) (a : Nat) (st : List Value) (h : mr_h) (Q : Option Value → mr_h → Prop), mr_wp 58 37 [v0, v1, v2, v3] (.ref a :: st) h Q = mr_gf (h.1 a) 6 1 (fun v => mr_wp 58 40 [v0, v1, v2, v3] (v :: st) h Q)) ∧
    (∀ (v0 v1 v2 : Value) (x : Int32) (st : List Value) (h : mr_h) (Q : Option Value → mr_h → Prop), mr_wp 58 40 [v0, v1, v2, .int x] st h Q = mr_wp 58 41 [v0, v1, v2, .int x] (.int x :: st) h Q) ∧
    (∀ (v0 v1 v2 v3 : Value) (a : Nat) (x : Int32) (st : List Value) (h : mr_h) (Q : Option Value → mr_h → Prop), mr_wp 58 41 [v0, v1, v2, v3] (.int x :: .ref a :: st) h Q = mr_ai (h.1 a) x (fun v => mr_wp 58 42 [v0, v1, v2, v3] (.int v :: st) h Q)) ∧
    (∀ (v1 v2 v3 : Value) (x : Nat) (st : List Value) (h : mr_h) (Q : Option Value → mr_h → Prop), mr_wp 58 42 [.ref x, v1, v2, v3] st h Q = mr_wp 58 43 [.ref x, v1, v2, v3] (.ref x :: st) h Q) ∧
    (∀ (v0 v1 v2 : Value) (x : Int32) (st : List Value) (h : mr_h) (Q : Option Value → mr_h → Prop), mr_wp 58 43 [v0, v1, v2, .int x] st h Q = mr_wp 58 44 [v0, v1, v2, .int x] (.int x :: st) h Q) ∧
    (∀ (v0 v1 v2 v3 : Value) (a0 : Int32) (o : Nat) (r0 : Value) (r1 : Value) (h : mr_h) (Q : Option Value → mr_h → Prop), mr_wp 58 44 [v0, v1, v2, v3] [.int a0, .ref o, r0, r1] h Q = mr_rc (h.1 o) 6 (mr_run 20 [.ref o, .int a0] h (fun v h' => mr_wp 58 47 [v0, v1, v2, v3] (v.toList ++ [r0, r1]) h' Q))) ∧
    (∀ (v0 v1 v2 v3 : Value) (x : Int32) (y : Int32) (st : List Value) (h : mr_h) (Q : Option Value → mr_h → Prop), mr_wp 58 47 [v0, v1, v2, v3] (.int y :: .int x :: st) h Q = if ¬ x = y then mr_wp 58 54 [v0, v1, v2, v3] st h Q else mr_wp 58 50 [v0, v1, v2, v3] st h Q) ∧
    (∀ (v0 v1 v2 v3 : Value) (st : List Value) (h : mr_h) (Q : Option Value → mr_h → Prop), mr_wp 58 50 [v0, v1, v2, v3] st h Q = mr_wp 58 51 [v0, v1, v2, v3] (.int (1) :: st) h Q) ∧
    (∀ (v0 v1 v2 v3 : Value) (st : List Value) (h : mr_h) (Q : Option Value → mr_h → Prop), mr_wp 58 51 [v0, v1, v2, v3] st h Q = mr_wp 58 55 [v0, v1, v2, v3] st h Q) ∧
    (∀ (v0 v1 v2 v3 : Value) (st : List Value) (h : mr_h) (Q : Option Value → mr_h → Prop), mr_wp 58 54 [v0, v1, v2, v3] st h Q = mr_wp 58 55 [v0, v1, v2, v3] (.int (0) :: st) h Q) ∧
    (∀ (v0 v1 v2 v3 : Value) (x : Int32) (y : Int32) (st : List Value) (h : mr_h) (Q : Option Value → mr_h → Prop), mr_wp 58 55 [v0, v1, v2, v3] (.int y :: .int x :: st) h Q = mr_wp 58 56 [v0, v1, v2, v3] (.int (x + y) :: st) h Q) ∧
    (∀ (v1 v2 v3 : Value) (w0 : Nat) (x : Int32) (st : List Value) (h : mr_h) (Q : Option Value → mr_h → Prop), mr_wp 58 56 [.ref w0, v1, v2, v3] (.int x :: st) h Q = mr_wp 58 57 [.ref w0, .int x, v2, v3] st h Q) ∧
    (∀ (v0 v1 v3 : Value) (x : Int32) (st : List Value) (h : mr_h) (Q : Option Value → mr_h → Prop), mr_wp 58 57 [v0, v1, .int x, v3] st h Q = mr_wp 58 58 [v0, v1, .int x, v3] (.int x :: st) h Q) ∧
    (∀ (v1 v2 v3 : Value) (x : Nat) (st : List Value) (h : mr_h) (Q : Option Value → mr_h → Prop), mr_wp 58 58 [.ref x, v1, v2, v3] st h Q = mr_wp 58 59 [.ref x, v1, v2, v3] (.ref x :: st) h Q) ∧
    (∀ (v0 v1 v2 v3 : Value) (a : Nat) (st : List Value) (h : mr_h) (Q : Option Value → mr_h → Prop), mr_wp 58 59 [v0, v1, v2, v3] (.ref a :: st) h Q = mr_gf (h.1 a) 6 0 (fun v => mr_wp 58 62 [v0, v1, v2, v3] (v :: st) h Q)) ∧
    (∀ (v0 v1 v2 : Value) (x : Int32) (st : List Value) (h : mr_h) (Q : Option Value → mr_h → Prop), mr_wp 58 62 [v0, v1, v2, .int x] st h Q = mr_wp 58 63 [v0, v1, v2, .int x] (.int x :: st) h Q) ∧
    (∀ (v0 v1 v2 v3 : Value) (a : Nat) (x : Int32) (st : List Value) (h : mr_h) (Q : Option Value → mr_h → Prop), mr_wp 58 63 [v0, v1, v2, v3] (.int x :: .ref a :: st) h Q = mr_ai (h.1 a) x (fun v => mr_wp 58 64 [v0, v1, v2, v3] (.int v :: st) h Q)) ∧
    (∀ (v1 v2 v3 : Value) (x : Nat) (st : List Value) (h : mr_h) (Q : Option Value → mr_h → Prop), mr_wp 58 64 [.ref x, v1, v2, v3] st h Q = mr_wp 58 65 [.ref x, v1, v2, v3] (.ref x :: st) h Q) :=
  ⟨fun v1 v2 v3 x st h Q => gx_one (i := .aload_n 0) (len := 1) (by decide +kernel) rfl,
   fun v0 v1 v2 v3 o h Q => gx_virt (x := 89) (n := 0) (by decide +kernel) (by decide +kernel) rfl (Or.inl (Nat.le_of_ble_eq_true rfl)) (by show _ ≤ mr_mxl 51; rw [show mr_mxl 51 = 1 from by decide +kernel]; exact Nat.le_of_ble_eq_true rfl) (by decide +kernel),
   fun v0 v1 v2 v3 st h Q => gx_one (i := .iconst 1) (len := 1) (by decide +kernel) rfl,
   fun v0 v1 v2 v3 x y st h Q => gx_br (i := .if_icmp .ne 5) (len := 3) (c := .ne) (by decide +kernel) rfl rfl,
   fun v0 v1 v2 v3 st h Q => gx_one (i := .iconst 0) (len := 1) (by decide +kernel) rfl,
   fun v0 v1 v2 v3 x h Q => gx_ret (i := .ireturn) (len := 1) (by decide +kernel) rfl rfl (by simp only [mr_rt, if_pos]; rw [if_pos (Or.inl (by decide +kernel))]),
   fun v0 v1 v2 v3 st h Q => gx_one (i := .iconst 0) (len := 1) (by decide +kernel) rfl,
   fun v1 v2 v3 w0 x st h Q => gx_one (i := .istore_n 1) (len := 1) (by decide +kernel) rfl,
   fun v0 v1 v2 v3 st h Q => gx_one (i := .iconst 0) (len := 1) (by decide +kernel) rfl,
   fun v0 v2 v3 w1 x st h Q => gx_one (i := .istore_n 2) (len := 1) (by decide +kernel) rfl,
   fun v0 v1 v2 v3 st h Q => gx_one (i := .iconst 0) (len := 1) (by decide +kernel) rfl,
   fun v0 v1 v3 w2 x st h Q => gx_one (i := .istore_n 3) (len := 1) (by decide +kernel) rfl,
   fun v1 v2 v3 x st h Q => gx_one (i := .aload_n 0) (len := 1) (by decide +kernel) rfl,
   fun v0 v1 v2 v3 a st h Q => gx_get (x := 36) (by decide +kernel) (by decide +kernel),
   fun v0 v1 v2 v3 x y st h Q => gx_br (i := .if_icmp .ge 64) (len := 3) (c := .ge) (by decide +kernel) rfl rfl,
   fun v1 v2 v3 x st h Q => gx_one (i := .aload_n 0) (len := 1) (by decide +kernel) rfl,
   fun v0 v1 v2 v3 a st h Q => gx_get (x := 40) (by decide +kernel) (by decide +kernel),
   fun v0 v1 v2 x st h Q => gx_one (i := .iload_n 3) (len := 1) (by decide +kernel) rfl,
   fun v0 v1 v2 v3 a0 a1 h Q => gx_stat (x := 75) (t := 17) (n := 2) (by decide +kernel) (by decide +kernel) (by decide) (by decide +kernel) rfl (Or.inl (Nat.le_of_ble_eq_true rfl)) (by show _ ≤ mr_mxl 17; rw [show mr_mxl 17 = 2 from by decide +kernel]; exact Nat.le_of_ble_eq_true rfl),
   fun v0 v1 v2 v3 x st h Q => gx_br (i := .ifCond .eq 47) (len := 3) (c := .eq) (by decide +kernel) rfl rfl,
   fun v0 v2 v3 x st h Q => gx_one (i := .iload_n 1) (len := 1) (by decide +kernel) rfl,
   fun v1 v2 v3 x st h Q => gx_one (i := .aload_n 0) (len := 1) (by decide +kernel) rfl,
   fun v0 v1 v2 v3 a st h Q => gx_get (x := 15) (by decide +kernel) (by decide +kernel),
   fun v0 v1 v2 x st h Q => gx_one (i := .iload_n 3) (len := 1) (by decide +kernel) rfl,
   fun v0 v1 v2 v3 a x st h Q => gx_iald (by decide +kernel),
   fun v1 v2 v3 x st h Q => gx_one (i := .aload_n 0) (len := 1) (by decide +kernel) rfl,
   fun v0 v1 v2 x st h Q => gx_one (i := .iload_n 3) (len := 1) (by decide +kernel) rfl,
   fun v0 v1 v2 v3 a0 o r0 r1 h Q => gx_virt (x := 93) (n := 1) (by decide +kernel) (by decide +kernel) rfl (Or.inl (Nat.le_of_ble_eq_true rfl)) (by show _ ≤ mr_mxl 20; rw [show mr_mxl 20 = 2 from by decide +kernel]; exact Nat.le_of_ble_eq_true rfl) (by decide +kernel),
   fun v0 v1 v2 v3 x y st h Q => gx_br (i := .if_icmp .ne 7) (len := 3) (c := .ne) (by decide +kernel) rfl rfl,
   fun v0 v1 v2 v3 st h Q => gx_one (i := .iconst 1) (len := 1) (by decide +kernel) rfl,
   fun v0 v1 v2 v3 st h Q => gx_one (i := .goto 4) (len := 3) (by decide +kernel) rfl,
   fun v0 v1 v2 v3 st h Q => gx_one (i := .iconst 0) (len := 1) (by decide +kernel) rfl,
   fun v0 v1 v2 v3 x y st h Q => gx_one (i := .iadd) (len := 1) (by decide +kernel) rfl,
   fun v1 v2 v3 w0 x st h Q => gx_one (i := .istore_n 1) (len := 1) (by decide +kernel) rfl,
   fun v0 v1 v3 x st h Q => gx_one (i := .iload_n 2) (len := 1) (by decide +kernel) rfl,
   fun v1 v2 v3 x st h Q => gx_one (i := .aload_n 0) (len := 1) (by decide +kernel) rfl,
   fun v0 v1 v2 v3 a st h Q => gx_get (x := 9) (by decide +kernel) (by decide +kernel),
   fun v0 v1 v2 x st h Q => gx_one (i := .iload_n 3) (len := 1) (by decide +kernel) rfl,
   fun v0 v1 v2 v3 a x st h Q => gx_iald (by decide +kernel),
   fun v1 v2 v3 x st h Q => gx_one (i := .aload_n 0) (len := 1) (by decide +kernel) rfl⟩
theorem S_re_lone_1 : (∀ (v0 v1 v2 : Value) (x : Int32) (st : List Value) (h : mr_h) (Q : Option Value → mr_h → Prop), mr_wp 58 65 [v0, v1, v2, .int x] st h Q = mr_wp 58 66 [v0, v1, v2, .int x] (.int x :: st) h Q) ∧
    (∀ (v0 v1 v2 v3 : Value) (a0 : Int32) (o : Nat) (r0 : Value) (r1 : Value) (h : mr_h) (Q : Option Value → mr_h → Prop), mr_wp 58 66 [v0, v1, v2, v3] [.int a0, .ref o, r0, r1] h Q = mr_rc (h.1 o) 6 (mr_run 20 [.ref o, .int a0] h (fun v h' => mr_wp 58 69 [v0, v1, v2, v3] (v.toList ++ [r0, r1]) h' Q))) ∧
    (∀ (v0 v1 v2 v3 : Value) (x : Int32) (y : Int32) (st : List Value) (h : mr_h) (Q : Option Value → mr_h → Prop), mr_wp 58 69 [v0, v1, v2, v3] (.int y :: .int x :: st) h Q = if ¬ x = y then mr_wp 58 76 [v0, v1, v2, v3] st h Q else mr_wp 58 72 [v0, v1, v2, v3] st h Q) ∧
    (∀ (v0 v1 v2 v3 : Value) (st : List Value) (h : mr_h) (Q : Option Value → mr_h → Prop), mr_wp 58 72 [v0, v1, v2, v3] st h Q = mr_wp 58 73 [v0, v1, v2, v3] (.int (1) :: st) h Q) ∧
    (∀ (v0 v1 v2 v3 : Value) (st : List Value) (h : mr_h) (Q : Option Value → mr_h → Prop), mr_wp 58 73 [v0, v1, v2, v3] st h Q = mr_wp 58 77 [v0, v1, v2, v3] st h Q) ∧
    (∀ (v0 v1 v2 v3 : Value) (st : List Value) (h : mr_h) (Q : Option Value → mr_h → Prop), mr_wp 58 76 [v0, v1, v2, v3] st h Q = mr_wp 58 77 [v0, v1, v2, v3] (.int (0) :: st) h Q) ∧
    (∀ (v0 v1 v2 v3 : Value) (x : Int32) (y : Int32) (st : List Value) (h : mr_h) (Q : Option Value → mr_h → Prop), mr_wp 58 77 [v0, v1, v2, v3] (.int y :: .int x :: st) h Q = mr_wp 58 78 [v0, v1, v2, v3] (.int (x + y) :: st) h Q) ∧
    (∀ (v0 v2 v3 : Value) (w1 : Int32) (x : Int32) (st : List Value) (h : mr_h) (Q : Option Value → mr_h → Prop), mr_wp 58 78 [v0, .int w1, v2, v3] (.int x :: st) h Q = mr_wp 58 79 [v0, .int w1, .int x, v3] st h Q) ∧
    (∀ (v0 v1 : Value) (x : Int32) (w2 : Int32) (st : List Value) (h : mr_h) (Q : Option Value → mr_h → Prop), mr_wp 58 79 [v0, v1, .int w2, .int x] st h Q = mr_wp 58 82 [v0, v1, .int w2, .int (x + (1))] st h Q) ∧
    (∀ (v0 v1 v2 v3 : Value) (st : List Value) (h : mr_h) (Q : Option Value → mr_h → Prop), mr_wp 58 82 [v0, v1, v2, v3] st h Q = mr_wp 58 16 [v0, v1, v2, v3] st h Q) ∧
    (∀ (v0 v2 v3 : Value) (x : Int32) (st : List Value) (h : mr_h) (Q : Option Value → mr_h → Prop), mr_wp 58 85 [v0, .int x, v2, v3] st h Q = mr_wp 58 86 [v0, .int x, v2, v3] (.int x :: st) h Q) ∧
    (∀ (v0 v1 v3 : Value) (x : Int32) (st : List Value) (h : mr_h) (Q : Option Value → mr_h → Prop), mr_wp 58 86 [v0, v1, .int x, v3] st h Q = mr_wp 58 87 [v0, v1, .int x, v3] (.int x :: st) h Q) ∧
    (∀ (v0 v1 v2 v3 : Value) (x : Int32) (y : Int32) (h : mr_h) (Q : Option Value → mr_h → Prop), mr_wp 58 87 [v0, v1, v2, v3] [.int y, .int x] h Q = mr_wp 58 90 [v0, v1, v2, v3] [.int (if x < y then y else x)] h Q) ∧
    (∀ (v0 v1 v2 v3 : Value) (x : Int32) (h : mr_h) (Q : Option Value → mr_h → Prop), mr_wp 58 90 [v0, v1, v2, v3] [.int x] h Q = Q (some (.int x)) h) :=
  ⟨fun v0 v1 v2 x st h Q => gx_one (i := .iload_n 3) (len := 1) (by decide +kernel) rfl,
   fun v0 v1 v2 v3 a0 o r0 r1 h Q => gx_virt (x := 93) (n := 1) (by decide +kernel) (by decide +kernel) rfl (Or.inl (Nat.le_of_ble_eq_true rfl)) (by show _ ≤ mr_mxl 20; rw [show mr_mxl 20 = 2 from by decide +kernel]; exact Nat.le_of_ble_eq_true rfl) (by decide +kernel),
   fun v0 v1 v2 v3 x y st h Q => gx_br (i := .if_icmp .ne 7) (len := 3) (c := .ne) (by decide +kernel) rfl rfl,
   fun v0 v1 v2 v3 st h Q => gx_one (i := .iconst 1) (len := 1) (by decide +kernel) rfl,
   fun v0 v1 v2 v3 st h Q => gx_one (i := .goto 4) (len := 3) (by decide +kernel) rfl,
   fun v0 v1 v2 v3 st h Q => gx_one (i := .iconst 0) (len := 1) (by decide +kernel) rfl,
   fun v0 v1 v2 v3 x y st h Q => gx_one (i := .iadd) (len := 1) (by decide +kernel) rfl,
   fun v0 v2 v3 w1 x st h Q => gx_one (i := .istore_n 2) (len := 1) (by decide +kernel) rfl,
   fun v0 v1 x w2 st h Q => gx_one (i := .iinc 3 1) (len := 3) (by decide +kernel) rfl,
   fun v0 v1 v2 v3 st h Q => gx_one (i := .goto (-66)) (len := 3) (by decide +kernel) rfl,
   fun v0 v2 v3 x st h Q => gx_one (i := .iload_n 1) (len := 1) (by decide +kernel) rfl,
   fun v0 v1 v3 x st h Q => gx_one (i := .iload_n 2) (len := 1) (by decide +kernel) rfl,
   fun v0 v1 v2 v3 x y h Q => gx_max (x := 96) (by decide +kernel) (by decide +kernel) (Nat.le_of_ble_eq_true rfl),
   fun v0 v1 v2 v3 x h Q => gx_ret (i := .ireturn) (len := 1) (by decide +kernel) rfl rfl (by simp only [mr_rt, if_pos]; rw [if_pos (Or.inl (by decide +kernel))])⟩

theorem s_re_chain_4 (v0 v1 v3 : Value) (x : Int32) (st : List Value) (h : mr_h) (Q : Option Value → mr_h → Prop) : mr_wp 60 4 [v0, v1, .int x, v3] st h Q = mr_wp 60 5 [v0, v1, .int x, v3] (.int x :: st) h Q := gx_one (i := .iload_n 2) (len := 1) (by decide +kernel) rfl
theorem s_re_chain_14 (v0 v1 v2 : Value) (x : Int32) (st : List Value) (h : mr_h) (Q : Option Value → mr_h → Prop) : mr_wp 60 14 [v0, v1, v2, .int x] st h Q = mr_wp 60 15 [v0, v1, v2, .int x] (.int x :: st) h Q := gx_one (i := .iload_n 3) (len := 1) (by decide +kernel) rfl
theorem S_re_chain_0 : (∀ (v0 v1 v2 v3 : Value) (st : List Value) (h : mr_h) (Q : Option Value → mr_h → Prop), mr_wp 60 0 [v0, v1, v2, v3] st h Q = mr_wp 60 1 [v0, v1, v2, v3] (.int (0) :: st) h Q) ∧
    (∀ (v1 v2 v3 : Value) (w0 : Nat) (x : Int32) (st : List Value) (h : mr_h) (Q : Option Value → mr_h → Prop), mr_wp 60 1 [.ref w0, v1, v2, v3] (.int x :: st) h Q = mr_wp 60 2 [.ref w0, .int x, v2, v3] st h Q) ∧
    (∀ (v0 v1 v2 v3 : Value) (st : List Value) (h : mr_h) (Q : Option Value → mr_h → Prop), mr_wp 60 2 [v0, v1, v2, v3] st h Q = mr_wp 60 3 [v0, v1, v2, v3] (.int (1) :: st) h Q) ∧
    (∀ (v0 v2 v3 : Value) (w1 : Int32) (x : Int32) (st : List Value) (h : mr_h) (Q : Option Value → mr_h → Prop), mr_wp 60 3 [v0, .int w1, v2, v3] (.int x :: st) h Q = mr_wp 60 4 [v0, .int w1, .int x, v3] st h Q) ∧
    (∀ (v1 v2 v3 : Value) (x : Nat) (st : List Value) (h : mr_h) (Q : Option Value → mr_h → Prop), mr_wp 60 5 [.ref x, v1, v2, v3] st h Q = mr_wp 60 6 [.ref x, v1, v2, v3] (.ref x :: st) h Q) ∧
    (∀ (v0 v1 v2 v3 : Value) (a : Nat) (st : List Value) (h : mr_h) (Q : Option Value → mr_h → Prop), mr_wp 60 6 [v0, v1, v2, v3] (.ref a :: st) h Q = mr_gf (h.1 a) 6 8 (fun v => mr_wp 60 9 [v0, v1, v2, v3] (v :: st) h Q)) ∧
    (∀ (v0 v1 v2 v3 : Value) (x : Int32) (y : Int32) (st : List Value) (h : mr_h) (Q : Option Value → mr_h → Prop), mr_wp 60 9 [v0, v1, v2, v3] (.int y :: .int x :: st) h Q = if y < x then mr_wp 60 100 [v0, v1, v2, v3] st h Q else mr_wp 60 12 [v0, v1, v2, v3] st h Q) ∧
    (∀ (v0 v1 v2 v3 : Value) (st : List Value) (h : mr_h) (Q : Option Value → mr_h → Prop), mr_wp 60 12 [v0, v1, v2, v3] st h Q = mr_wp 60 13 [v0, v1, v2, v3] (.int (0) :: st) h Q) ∧
    (∀ (v0 v1 v3 : Value) (w2 : Int32) (x : Int32) (st : List Value) (h : mr_h) (Q : Option Value → mr_h → Prop), mr_wp 60 13 [v0, v1, .int w2, v3] (.int x :: st) h Q = mr_wp 60 14 [v0, v1, .int w2, .int x] st h Q) ∧
    (∀ (v1 v2 v3 : Value) (x : Nat) (st : List Value) (h : mr_h) (Q : Option Value → mr_h → Prop), mr_wp 60 15 [.ref x, v1, v2, v3] st h Q = mr_wp 60 16 [.ref x, v1, v2, v3] (.ref x :: st) h Q) ∧
    (∀ (v0 v1 v2 v3 : Value) (a : Nat) (st : List Value) (h : mr_h) (Q : Option Value → mr_h → Prop), mr_wp 60 16 [v0, v1, v2, v3] (.ref a :: st) h Q = mr_gf (h.1 a) 6 8 (fun v => mr_wp 60 19 [v0, v1, v2, v3] (v :: st) h Q)) ∧
    (∀ (v0 v1 v2 v3 : Value) (x : Int32) (y : Int32) (st : List Value) (h : mr_h) (Q : Option Value → mr_h → Prop), mr_wp 60 19 [v0, v1, v2, v3] (.int y :: .int x :: st) h Q = if y ≤ x then mr_wp 60 94 [v0, v1, v2, v3] st h Q else mr_wp 60 22 [v0, v1, v2, v3] st h Q) ∧
    (∀ (v1 v2 v3 : Value) (x : Nat) (st : List Value) (h : mr_h) (Q : Option Value → mr_h → Prop), mr_wp 60 22 [.ref x, v1, v2, v3] st h Q = mr_wp 60 23 [.ref x, v1, v2, v3] (.ref x :: st) h Q) ∧
    (∀ (v0 v1 v2 v3 : Value) (a : Nat) (st : List Value) (h : mr_h) (Q : Option Value → mr_h → Prop), mr_wp 60 23 [v0, v1, v2, v3] (.ref a :: st) h Q = mr_gf (h.1 a) 6 9 (fun v => mr_wp 60 26 [v0, v1, v2, v3] (v :: st) h Q)) ∧
    (∀ (v0 v1 v2 : Value) (x : Int32) (st : List Value) (h : mr_h) (Q : Option Value → mr_h → Prop), mr_wp 60 26 [v0, v1, v2, .int x] st h Q = mr_wp 60 27 [v0, v1, v2, .int x] (.int x :: st) h Q) ∧
    (∀ (v0 v1 v2 v3 : Value) (a0 : Int32) (a1 : Int32) (h : mr_h) (Q : Option Value → mr_h → Prop), mr_wp 60 27 [v0, v1, v2, v3] [.int a1, .int a0] h Q = mr_run 17 [.int a0, .int a1] h (fun v h' => mr_wp 60 30 [v0, v1, v2, v3] (v.toList ++ []) h' Q)) ∧
    (∀ (v0 v1 v2 v3 : Value) (x : Int32) (st : List Value) (h : mr_h) (Q : Option Value → mr_h → Prop), mr_wp 60 30 [v0, v1, v2, v3] (.int x :: st) h Q = if x = 0 then mr_wp 60 88 [v0, v1, v2, v3] st h Q else mr_wp 60 33 [v0, v1, v2, v3] st h Q) ∧
    (∀ (v1 v2 v3 : Value) (x : Nat) (st : List Value) (h : mr_h) (Q : Option Value → mr_h → Prop), mr_wp 60 33 [.ref x, v1, v2, v3] st h Q = mr_wp 60 34 [.ref x, v1, v2, v3] (.ref x :: st) h Q) ∧
    (∀ (v0 v1 v2 v3 : Value) (a : Nat) (st : List Value) (h : mr_h) (Q : Option Value → mr_h → Prop), mr_wp 60 34 [v0, v1, v2, v3] (.ref a :: st) h Q = mr_gf (h.1 a) 6 0 (fun v => mr_wp 60 37 [v0, v1, v2, v3] (v :: st) h Q)) ∧
    (∀ (v0 v1 v2 : Value) (x : Int32) (st : List Value) (h : mr_h) (Q : Option Value → mr_h → Prop), mr_wp 60 37 [v0, v1, v2, .int x] st h Q = mr_wp 60 38 [v0, v1, v2, .int x] (.int x :: st) h Q) ∧
    (∀ (v0 v1 v2 v3 : Value) (a : Nat) (x : Int32) (st : List Value) (h : mr_h) (Q : Option Value → mr_h → Prop), mr_wp 60 38 [v0, v1, v2, v3] (.int x :: .ref a :: st) h Q = mr_ai (h.1 a) x (fun v => mr_wp 60 39 [v0, v1, v2, v3] (.int v :: st) h Q)) ∧
    (∀ (v0 v1 v2 v3 : Value) (a0 : Int32) (h : mr_h) (Q : Option Value → mr_h → Prop), mr_wp 60 39 [v0, v1, v2, v3] [.int a0] h Q = mr_run 50 [.int a0] h (fun v h' => mr_wp 60 42 [v0, v1, v2, v3] (v.toList ++ []) h' Q)) ∧
    (∀ (v0 v1 v3 : Value) (x : Int32) (st : List Value) (h : mr_h) (Q : Option Value → mr_h → Prop), mr_wp 60 42 [v0, v1, .int x, v3] st h Q = mr_wp 60 43 [v0, v1, .int x, v3] (.int x :: st) h Q) ∧
    (∀ (v0 v1 v2 v3 : Value) (x : Int32) (y : Int32) (st : List Value) (h : mr_h) (Q : Option Value → mr_h → Prop), mr_wp 60 43 [v0, v1, v2, v3] (.int y :: .int x :: st) h Q = if ¬ x = y then mr_wp 60 88 [v0, v1, v2, v3] st h Q else mr_wp 60 46 [v0, v1, v2, v3] st h Q) ∧
    (∀ (v1 v2 v3 : Value) (x : Nat) (st : List Value) (h : mr_h) (Q : Option Value → mr_h → Prop), mr_wp 60 46 [.ref x, v1, v2, v3] st h Q = mr_wp 60 47 [.ref x, v1, v2, v3] (.ref x :: st) h Q) ∧
    (∀ (v0 v1 v2 v3 : Value) (a : Nat) (st : List Value) (h : mr_h) (Q : Option Value → mr_h → Prop), mr_wp 60 47 [v0, v1, v2, v3] (.ref a :: st) h Q = mr_gf (h.1 a) 6 7 (fun v => mr_wp 60 50 [v0, v1, v2, v3] (v :: st) h Q)) ∧
    (∀ (v0 v1 v2 : Value) (x : Int32) (st : List Value) (h : mr_h) (Q : Option Value → mr_h → Prop), mr_wp 60 50 [v0, v1, v2, .int x] st h Q = mr_wp 60 51 [v0, v1, v2, .int x] (.int x :: st) h Q) ∧
    (∀ (v0 v1 v2 v3 : Value) (st : List Value) (h : mr_h) (Q : Option Value → mr_h → Prop), mr_wp 60 51 [v0, v1, v2, v3] st h Q = mr_wp 60 52 [v0, v1, v2, v3] (.int (1) :: st) h Q) ∧
    (∀ (v1 v2 v3 : Value) (x : Nat) (st : List Value) (h : mr_h) (Q : Option Value → mr_h → Prop), mr_wp 60 52 [.ref x, v1, v2, v3] st h Q = mr_wp 60 53 [.ref x, v1, v2, v3] (.ref x :: st) h Q) ∧
    (∀ (v1 v2 v3 : Value) (x : Nat) (st : List Value) (h : mr_h) (Q : Option Value → mr_h → Prop), mr_wp 60 53 [.ref x, v1, v2, v3] st h Q = mr_wp 60 54 [.ref x, v1, v2, v3] (.ref x :: st) h Q) ∧
    (∀ (v0 v1 v2 v3 : Value) (a : Nat) (st : List Value) (h : mr_h) (Q : Option Value → mr_h → Prop), mr_wp 60 54 [v0, v1, v2, v3] (.ref a :: st) h Q = mr_gf (h.1 a) 6 0 (fun v => mr_wp 60 57 [v0, v1, v2, v3] (v :: st) h Q)) ∧
    (∀ (v0 v1 v2 : Value) (x : Int32) (st : List Value) (h : mr_h) (Q : Option Value → mr_h → Prop), mr_wp 60 57 [v0, v1, v2, .int x] st h Q = mr_wp 60 58 [v0, v1, v2, .int x] (.int x :: st) h Q) ∧
    (∀ (v0 v1 v2 v3 : Value) (a : Nat) (x : Int32) (st : List Value) (h : mr_h) (Q : Option Value → mr_h → Prop), mr_wp 60 58 [v0, v1, v2, v3] (.int x :: .ref a :: st) h Q = mr_ai (h.1 a) x (fun v => mr_wp 60 59 [v0, v1, v2, v3] (.int v :: st) h Q)) ∧
    (∀ (v1 v2 v3 : Value) (x : Nat) (st : List Value) (h : mr_h) (Q : Option Value → mr_h → Prop), mr_wp 60 59 [.ref x, v1, v2, v3] st h Q = mr_wp 60 60 [.ref x, v1, v2, v3] (.ref x :: st) h Q) ∧
    (∀ (v0 v1 v2 : Value) (x : Int32) (st : List Value) (h : mr_h) (Q : Option Value → mr_h → Prop), mr_wp 60 60 [v0, v1, v2, .int x] st h Q = mr_wp 60 61 [v0, v1, v2, .int x] (.int x :: st) h Q) ∧
    (∀ (v0 v1 v2 v3 : Value) (a0 : Int32) (o : Nat) (r0 : Int32) (r1 : Nat) (r2 : Int32) (r3 : Int32) (r4 : Nat) (h : mr_h) (Q : Option Value → mr_h → Prop), mr_wp 60 61 [v0, v1, v2, v3] [.int a0, .ref o, .int r0, .ref r1, .int r2, .int r3, .ref r4] h Q = mr_rc (h.1 o) 6 (mr_run 20 [.ref o, .int a0] h (fun v h' => mr_wp 60 64 [v0, v1, v2, v3] (v.toList ++ [.int r0, .ref r1, .int r2, .int r3, .ref r4]) h' Q))) ∧
    (∀ (v0 v1 v2 v3 : Value) (st : List Value) (h : mr_h) (Q : Option Value → mr_h → Prop), mr_wp 60 64 [v0, v1, v2, v3] st h Q = mr_wp 60 65 [v0, v1, v2, v3] (.int (-1) :: st) h Q) ∧
    (∀ (v0 v1 v2 v3 : Value) (x : Int32) (y : Int32) (st : List Value) (h : mr_h) (Q : Option Value → mr_h → Prop), mr_wp 60 65 [v0, v1, v2, v3] (.int y :: .int x :: st) h Q = mr_wp 60 66 [v0, v1, v2, v3] (.int (x ^^^ y) :: st) h Q) ∧
    (∀ (v0 v1 v2 v3 : Value) (x : Int32) (y : Int32) (st : List Value) (h : mr_h) (Q : Option Value → mr_h → Prop), mr_wp 60 66 [v0, v1, v2, v3] (.int y :: .int x :: st) h Q = mr_wp 60 67 [v0, v1, v2, v3] (.int (x &&& y) :: st) h Q) ∧
    (∀ (v1 v2 v3 : Value) (x : Nat) (st : List Value) (h : mr_h) (Q : Option Value → mr_h → Prop), mr_wp 60 67 [.ref x, v1, v2, v3] st h Q = mr_wp 60 68 [.ref x, v1, v2, v3] (.ref x :: st) h Q) :=
  ⟨fun v0 v1 v2 v3 st h Q => gx_one (i := .iconst 0) (len := 1) (by decide +kernel) rfl,
   fun v1 v2 v3 w0 x st h Q => gx_one (i := .istore_n 1) (len := 1) (by decide +kernel) rfl,
   fun v0 v1 v2 v3 st h Q => gx_one (i := .iconst 1) (len := 1) (by decide +kernel) rfl,
   fun v0 v2 v3 w1 x st h Q => gx_one (i := .istore_n 2) (len := 1) (by decide +kernel) rfl,
   fun v1 v2 v3 x st h Q => gx_one (i := .aload_n 0) (len := 1) (by decide +kernel) rfl,
   fun v0 v1 v2 v3 a st h Q => gx_get (x := 36) (by decide +kernel) (by decide +kernel),
   fun v0 v1 v2 v3 x y st h Q => gx_br (i := .if_icmp .gt 91) (len := 3) (c := .gt) (by decide +kernel) rfl rfl,
   fun v0 v1 v2 v3 st h Q => gx_one (i := .iconst 0) (len := 1) (by decide +kernel) rfl,
   fun v0 v1 v3 w2 x st h Q => gx_one (i := .istore_n 3) (len := 1) (by decide +kernel) rfl,
   fun v1 v2 v3 x st h Q => gx_one (i := .aload_n 0) (len := 1) (by decide +kernel) rfl,
   fun v0 v1 v2 v3 a st h Q => gx_get (x := 36) (by decide +kernel) (by decide +kernel),
   fun v0 v1 v2 v3 x y st h Q => gx_br (i := .if_icmp .ge 75) (len := 3) (c := .ge) (by decide +kernel) rfl rfl,
   fun v1 v2 v3 x st h Q => gx_one (i := .aload_n 0) (len := 1) (by decide +kernel) rfl,
   fun v0 v1 v2 v3 a st h Q => gx_get (x := 40) (by decide +kernel) (by decide +kernel),
   fun v0 v1 v2 x st h Q => gx_one (i := .iload_n 3) (len := 1) (by decide +kernel) rfl,
   fun v0 v1 v2 v3 a0 a1 h Q => gx_stat (x := 75) (t := 17) (n := 2) (by decide +kernel) (by decide +kernel) (by decide) (by decide +kernel) rfl (Or.inl (Nat.le_of_ble_eq_true rfl)) (by show _ ≤ mr_mxl 17; rw [show mr_mxl 17 = 2 from by decide +kernel]; exact Nat.le_of_ble_eq_true rfl),
   fun v0 v1 v2 v3 x st h Q => gx_br (i := .ifCond .eq 58) (len := 3) (c := .eq) (by decide +kernel) rfl rfl,
   fun v1 v2 v3 x st h Q => gx_one (i := .aload_n 0) (len := 1) (by decide +kernel) rfl,
   fun v0 v1 v2 v3 a st h Q => gx_get (x := 9) (by decide +kernel) (by decide +kernel),
   fun v0 v1 v2 x st h Q => gx_one (i := .iload_n 3) (len := 1) (by decide +kernel) rfl,
   fun v0 v1 v2 v3 a x st h Q => gx_iald (by decide +kernel),
   fun v0 v1 v2 v3 a0 h Q => gx_stat (x := 79) (t := 50) (n := 1) (by decide +kernel) (by decide +kernel) (by decide) (by decide +kernel) rfl (Or.inl (Nat.le_of_ble_eq_true rfl)) (by show _ ≤ mr_mxl 50; rw [show mr_mxl 50 = 1 from by decide +kernel]; exact Nat.le_of_ble_eq_true rfl),
   fun v0 v1 v3 x st h Q => gx_one (i := .iload_n 2) (len := 1) (by decide +kernel) rfl,
   fun v0 v1 v2 v3 x y st h Q => gx_br (i := .if_icmp .ne 45) (len := 3) (c := .ne) (by decide +kernel) rfl rfl,
   fun v1 v2 v3 x st h Q => gx_one (i := .aload_n 0) (len := 1) (by decide +kernel) rfl,
   fun v0 v1 v2 v3 a st h Q => gx_get (x := 33) (by decide +kernel) (by decide +kernel),
   fun v0 v1 v2 x st h Q => gx_one (i := .iload_n 3) (len := 1) (by decide +kernel) rfl,
   fun v0 v1 v2 v3 st h Q => gx_one (i := .iconst 1) (len := 1) (by decide +kernel) rfl,
   fun v1 v2 v3 x st h Q => gx_one (i := .aload_n 0) (len := 1) (by decide +kernel) rfl,
   fun v1 v2 v3 x st h Q => gx_one (i := .aload_n 0) (len := 1) (by decide +kernel) rfl,
   fun v0 v1 v2 v3 a st h Q => gx_get (x := 9) (by decide +kernel) (by decide +kernel),
   fun v0 v1 v2 x st h Q => gx_one (i := .iload_n 3) (len := 1) (by decide +kernel) rfl,
   fun v0 v1 v2 v3 a x st h Q => gx_iald (by decide +kernel),
   fun v1 v2 v3 x st h Q => gx_one (i := .aload_n 0) (len := 1) (by decide +kernel) rfl,
   fun v0 v1 v2 x st h Q => gx_one (i := .iload_n 3) (len := 1) (by decide +kernel) rfl,
   fun v0 v1 v2 v3 a0 o r0 r1 r2 r3 r4 h Q => gx_virt (x := 93) (n := 1) (by decide +kernel) (by decide +kernel) rfl (Or.inr (Nat.le_of_ble_eq_true rfl)) (by show _ ≤ mr_mxl 20; rw [show mr_mxl 20 = 2 from by decide +kernel]; exact Nat.le_of_ble_eq_true rfl) (by decide +kernel),
   fun v0 v1 v2 v3 st h Q => gx_one (i := .iconst (-1)) (len := 1) (by decide +kernel) rfl,
   fun v0 v1 v2 v3 x y st h Q => gx_one (i := .ixor) (len := 1) (by decide +kernel) rfl,
   fun v0 v1 v2 v3 x y st h Q => gx_one (i := .iand) (len := 1) (by decide +kernel) rfl,
   fun v1 v2 v3 x st h Q => gx_one (i := .aload_n 0) (len := 1) (by decide +kernel) rfl⟩
theorem S_re_chain_1 : (∀ (v0 v1 v2 v3 : Value) (a : Nat) (st : List Value) (h : mr_h) (Q : Option Value → mr_h → Prop), mr_wp 60 68 [v0, v1, v2, v3] (.ref a :: st) h Q = mr_gf (h.1 a) 6 9 (fun v => mr_wp 60 71 [v0, v1, v2, v3] (v :: st) h Q)) ∧
    (∀ (v0 v1 v2 v3 : Value) (x : Int32) (y : Int32) (st : List Value) (h : mr_h) (Q : Option Value → mr_h → Prop), mr_wp 60 71 [v0, v1, v2, v3] (.int y :: .int x :: st) h Q = mr_wp 60 72 [v0, v1, v2, v3] (.int (x &&& y) :: st) h Q) ∧
    (∀ (v0 v1 v2 v3 : Value) (a0 : Int32) (o : Nat) (r0 : Value) (r1 : Value) (r2 : Value) (h : mr_h) (Q : Option Value → mr_h → Prop), mr_wp 60 72 [v0, v1, v2, v3] [.int a0, .ref o, r0, r1, r2] h Q = mr_rc (h.1 o) 6 (mr_run 61 [.ref o, .int a0] h (fun v h' => mr_wp 60 75 [v0, v1, v2, v3] (v.toList ++ [r0, r1, r2]) h' Q))) ∧
    (∀ (v0 v1 v2 v3 : Value) (x : Int32) (y : Int32) (st : List Value) (h : mr_h) (Q : Option Value → mr_h → Prop), mr_wp 60 75 [v0, v1, v2, v3] (.int y :: .int x :: st) h Q = mr_wp 60 76 [v0, v1, v2, v3] (.int (x + y) :: st) h Q) ∧
    (∀ (v0 v1 v2 v3 : Value) (a : Nat) (x : Int32) (y : Int32) (st : List Value) (h : mr_h) (Q : Option Value → mr_h → Prop), mr_wp 60 76 [v0, v1, v2, v3] (.int y :: .int x :: .ref a :: st) h Q = mr_si (h.1 a) x y (fun c => mr_wp 60 77 [v0, v1, v2, v3] st (mr_up h a c) Q)) ∧
    (∀ (v0 v2 v3 : Value) (x : Int32) (st : List Value) (h : mr_h) (Q : Option Value → mr_h → Prop), mr_wp 60 77 [v0, .int x, v2, v3] st h Q = mr_wp 60 78 [v0, .int x, v2, v3] (.int x :: st) h Q) ∧
    (∀ (v1 v2 v3 : Value) (x : Nat) (st : List Value) (h : mr_h) (Q : Option Value → mr_h → Prop), mr_wp 60 78 [.ref x, v1, v2, v3] st h Q = mr_wp 60 79 [.ref x, v1, v2, v3] (.ref x :: st) h Q) ∧
    (∀ (v0 v1 v2 v3 : Value) (a : Nat) (st : List Value) (h : mr_h) (Q : Option Value → mr_h → Prop), mr_wp 60 79 [v0, v1, v2, v3] (.ref a :: st) h Q = mr_gf (h.1 a) 6 7 (fun v => mr_wp 60 82 [v0, v1, v2, v3] (v :: st) h Q)) ∧
    (∀ (v0 v1 v2 : Value) (x : Int32) (st : List Value) (h : mr_h) (Q : Option Value → mr_h → Prop), mr_wp 60 82 [v0, v1, v2, .int x] st h Q = mr_wp 60 83 [v0, v1, v2, .int x] (.int x :: st) h Q) ∧
    (∀ (v0 v1 v2 v3 : Value) (a : Nat) (x : Int32) (st : List Value) (h : mr_h) (Q : Option Value → mr_h → Prop), mr_wp 60 83 [v0, v1, v2, v3] (.int x :: .ref a :: st) h Q = mr_ai (h.1 a) x (fun v => mr_wp 60 84 [v0, v1, v2, v3] (.int v :: st) h Q)) ∧
    (∀ (v0 v1 v2 v3 : Value) (x : Int32) (y : Int32) (h : mr_h) (Q : Option Value → mr_h → Prop), mr_wp 60 84 [v0, v1, v2, v3] [.int y, .int x] h Q = mr_wp 60 87 [v0, v1, v2, v3] [.int (if x < y then y else x)] h Q) ∧
    (∀ (v1 v2 v3 : Value) (w0 : Nat) (x : Int32) (st : List Value) (h : mr_h) (Q : Option Value → mr_h → Prop), mr_wp 60 87 [.ref w0, v1, v2, v3] (.int x :: st) h Q = mr_wp 60 88 [.ref w0, .int x, v2, v3] st h Q) ∧
    (∀ (v0 v1 : Value) (x : Int32) (w2 : Int32) (st : List Value) (h : mr_h) (Q : Option Value → mr_h → Prop), mr_wp 60 88 [v0, v1, .int w2, .int x] st h Q = mr_wp 60 91 [v0, v1, .int w2, .int (x + (1))] st h Q) ∧
    (∀ (v0 v1 v2 v3 : Value) (st : List Value) (h : mr_h) (Q : Option Value → mr_h → Prop), mr_wp 60 91 [v0, v1, v2, v3] st h Q = mr_wp 60 14 [v0, v1, v2, v3] st h Q) ∧
    (∀ (v0 v3 : Value) (x : Int32) (w1 : Int32) (st : List Value) (h : mr_h) (Q : Option Value → mr_h → Prop), mr_wp 60 94 [v0, .int w1, .int x, v3] st h Q = mr_wp 60 97 [v0, .int w1, .int (x + (1)), v3] st h Q) ∧
    (∀ (v0 v1 v2 v3 : Value) (st : List Value) (h : mr_h) (Q : Option Value → mr_h → Prop), mr_wp 60 97 [v0, v1, v2, v3] st h Q = mr_wp 60 4 [v0, v1, v2, v3] st h Q) ∧
    (∀ (v0 v2 v3 : Value) (x : Int32) (st : List Value) (h : mr_h) (Q : Option Value → mr_h → Prop), mr_wp 60 100 [v0, .int x, v2, v3] st h Q = mr_wp 60 101 [v0, .int x, v2, v3] (.int x :: st) h Q) ∧
    (∀ (v0 v1 v2 v3 : Value) (x : Int32) (h : mr_h) (Q : Option Value → mr_h → Prop), mr_wp 60 101 [v0, v1, v2, v3] [.int x] h Q = Q (some (.int x)) h) :=
  ⟨fun v0 v1 v2 v3 a st h Q => gx_get (x := 40) (by decide +kernel) (by decide +kernel),
   fun v0 v1 v2 v3 x y st h Q => gx_one (i := .iand) (len := 1) (by decide +kernel) rfl,
   fun v0 v1 v2 v3 a0 o r0 r1 r2 h Q => gx_virt (x := 102) (n := 1) (by decide +kernel) (by decide +kernel) rfl (Or.inl (Nat.le_of_ble_eq_true rfl)) (by show _ ≤ mr_mxl 61; rw [show mr_mxl 61 = 4 from by decide +kernel]; exact Nat.le_of_ble_eq_true rfl) (by decide +kernel),
   fun v0 v1 v2 v3 x y st h Q => gx_one (i := .iadd) (len := 1) (by decide +kernel) rfl,
   fun v0 v1 v2 v3 a x y st h Q => gx_iast (by decide +kernel),
   fun v0 v2 v3 x st h Q => gx_one (i := .iload_n 1) (len := 1) (by decide +kernel) rfl,
   fun v1 v2 v3 x st h Q => gx_one (i := .aload_n 0) (len := 1) (by decide +kernel) rfl,
   fun v0 v1 v2 v3 a st h Q => gx_get (x := 33) (by decide +kernel) (by decide +kernel),
   fun v0 v1 v2 x st h Q => gx_one (i := .iload_n 3) (len := 1) (by decide +kernel) rfl,
   fun v0 v1 v2 v3 a x st h Q => gx_iald (by decide +kernel),
   fun v0 v1 v2 v3 x y h Q => gx_max (x := 96) (by decide +kernel) (by decide +kernel) (Nat.le_of_ble_eq_true rfl),
   fun v1 v2 v3 w0 x st h Q => gx_one (i := .istore_n 1) (len := 1) (by decide +kernel) rfl,
   fun v0 v1 x w2 st h Q => gx_one (i := .iinc 3 1) (len := 3) (by decide +kernel) rfl,
   fun v0 v1 v2 v3 st h Q => gx_one (i := .goto (-77)) (len := 3) (by decide +kernel) rfl,
   fun v0 v3 x w1 st h Q => gx_one (i := .iinc 2 1) (len := 3) (by decide +kernel) rfl,
   fun v0 v1 v2 v3 st h Q => gx_one (i := .goto (-93)) (len := 3) (by decide +kernel) rfl,
   fun v0 v2 v3 x st h Q => gx_one (i := .iload_n 1) (len := 1) (by decide +kernel) rfl,
   fun v0 v1 v2 v3 x h Q => gx_ret (i := .ireturn) (len := 1) (by decide +kernel) rfl rfl (by simp only [mr_rt, if_pos]; rw [if_pos (Or.inl (by decide +kernel))])⟩

theorem s_re_longestFrom_4 (v0 v1 v2 : Value) (x : Int32) (st : List Value) (h : mr_h) (Q : Option Value → mr_h → Prop) : mr_wp 61 4 [v0, v1, v2, .int x] st h Q = mr_wp 61 5 [v0, v1, v2, .int x] (.int x :: st) h Q := gx_one (i := .iload_n 3) (len := 1) (by decide +kernel) rfl
theorem S_re_longestFrom : (∀ (v0 v1 v2 v3 : Value) (st : List Value) (h : mr_h) (Q : Option Value → mr_h → Prop), mr_wp 61 0 [v0, v1, v2, v3] st h Q = mr_wp 61 1 [v0, v1, v2, v3] (.int (0) :: st) h Q) ∧
    (∀ (v0 v2 v3 : Value) (w1 : Int32) (x : Int32) (st : List Value) (h : mr_h) (Q : Option Value → mr_h → Prop), mr_wp 61 1 [v0, .int w1, v2, v3] (.int x :: st) h Q = mr_wp 61 2 [v0, .int w1, .int x, v3] st h Q) ∧
    (∀ (v0 v1 v2 v3 : Value) (st : List Value) (h : mr_h) (Q : Option Value → mr_h → Prop), mr_wp 61 2 [v0, v1, v2, v3] st h Q = mr_wp 61 3 [v0, v1, v2, v3] (.int (0) :: st) h Q) ∧
    (∀ (v0 v1 v3 : Value) (w2 : Int32) (x : Int32) (st : List Value) (h : mr_h) (Q : Option Value → mr_h → Prop), mr_wp 61 3 [v0, v1, .int w2, v3] (.int x :: st) h Q = mr_wp 61 4 [v0, v1, .int w2, .int x] st h Q) ∧
    (∀ (v1 v2 v3 : Value) (x : Nat) (st : List Value) (h : mr_h) (Q : Option Value → mr_h → Prop), mr_wp 61 5 [.ref x, v1, v2, v3] st h Q = mr_wp 61 6 [.ref x, v1, v2, v3] (.ref x :: st) h Q) ∧
    (∀ (v0 v1 v2 v3 : Value) (a : Nat) (st : List Value) (h : mr_h) (Q : Option Value → mr_h → Prop), mr_wp 61 6 [v0, v1, v2, v3] (.ref a :: st) h Q = mr_gf (h.1 a) 6 8 (fun v => mr_wp 61 9 [v0, v1, v2, v3] (v :: st) h Q)) ∧
    (∀ (v0 v1 v2 v3 : Value) (x : Int32) (y : Int32) (st : List Value) (h : mr_h) (Q : Option Value → mr_h → Prop), mr_wp 61 9 [v0, v1, v2, v3] (.int y :: .int x :: st) h Q = if y ≤ x then mr_wp 61 37 [v0, v1, v2, v3] st h Q else mr_wp 61 12 [v0, v1, v2, v3] st h Q) ∧
    (∀ (v0 v2 v3 : Value) (x : Int32) (st : List Value) (h : mr_h) (Q : Option Value → mr_h → Prop), mr_wp 61 12 [v0, .int x, v2, v3] st h Q = mr_wp 61 13 [v0, .int x, v2, v3] (.int x :: st) h Q) ∧
    (∀ (v0 v1 v2 : Value) (x : Int32) (st : List Value) (h : mr_h) (Q : Option Value → mr_h → Prop), mr_wp 61 13 [v0, v1, v2, .int x] st h Q = mr_wp 61 14 [v0, v1, v2, .int x] (.int x :: st) h Q) ∧
    (∀ (v0 v1 v2 v3 : Value) (a0 : Int32) (a1 : Int32) (h : mr_h) (Q : Option Value → mr_h → Prop), mr_wp 61 14 [v0, v1, v2, v3] [.int a1, .int a0] h Q = mr_run 17 [.int a0, .int a1] h (fun v h' => mr_wp 61 17 [v0, v1, v2, v3] (v.toList ++ []) h' Q)) ∧
    (∀ (v0 v1 v2 v3 : Value) (x : Int32) (st : List Value) (h : mr_h) (Q : Option Value → mr_h → Prop), mr_wp 61 17 [v0, v1, v2, v3] (.int x :: st) h Q = if x = 0 then mr_wp 61 31 [v0, v1, v2, v3] st h Q else mr_wp 61 20 [v0, v1, v2, v3] st h Q) ∧
    (∀ (v0 v1 v3 : Value) (x : Int32) (st : List Value) (h : mr_h) (Q : Option Value → mr_h → Prop), mr_wp 61 20 [v0, v1, .int x, v3] st h Q = mr_wp 61 21 [v0, v1, .int x, v3] (.int x :: st) h Q) ∧
    (∀ (v1 v2 v3 : Value) (x : Nat) (st : List Value) (h : mr_h) (Q : Option Value → mr_h → Prop), mr_wp 61 21 [.ref x, v1, v2, v3] st h Q = mr_wp 61 22 [.ref x, v1, v2, v3] (.ref x :: st) h Q) ∧
    (∀ (v0 v1 v2 v3 : Value) (a : Nat) (st : List Value) (h : mr_h) (Q : Option Value → mr_h → Prop), mr_wp 61 22 [v0, v1, v2, v3] (.ref a :: st) h Q = mr_gf (h.1 a) 6 7 (fun v => mr_wp 61 25 [v0, v1, v2, v3] (v :: st) h Q)) ∧
    (∀ (v0 v1 v2 : Value) (x : Int32) (st : List Value) (h : mr_h) (Q : Option Value → mr_h → Prop), mr_wp 61 25 [v0, v1, v2, .int x] st h Q = mr_wp 61 26 [v0, v1, v2, .int x] (.int x :: st) h Q) ∧
    (∀ (v0 v1 v2 v3 : Value) (a : Nat) (x : Int32) (st : List Value) (h : mr_h) (Q : Option Value → mr_h → Prop), mr_wp 61 26 [v0, v1, v2, v3] (.int x :: .ref a :: st) h Q = mr_ai (h.1 a) x (fun v => mr_wp 61 27 [v0, v1, v2, v3] (.int v :: st) h Q)) ∧
    (∀ (v0 v1 v2 v3 : Value) (x : Int32) (y : Int32) (h : mr_h) (Q : Option Value → mr_h → Prop), mr_wp 61 27 [v0, v1, v2, v3] [.int y, .int x] h Q = mr_wp 61 30 [v0, v1, v2, v3] [.int (if x < y then y else x)] h Q) ∧
    (∀ (v0 v2 v3 : Value) (w1 : Int32) (x : Int32) (st : List Value) (h : mr_h) (Q : Option Value → mr_h → Prop), mr_wp 61 30 [v0, .int w1, v2, v3] (.int x :: st) h Q = mr_wp 61 31 [v0, .int w1, .int x, v3] st h Q) ∧
    (∀ (v0 v1 : Value) (x : Int32) (w2 : Int32) (st : List Value) (h : mr_h) (Q : Option Value → mr_h → Prop), mr_wp 61 31 [v0, v1, .int w2, .int x] st h Q = mr_wp 61 34 [v0, v1, .int w2, .int (x + (1))] st h Q) ∧
    (∀ (v0 v1 v2 v3 : Value) (st : List Value) (h : mr_h) (Q : Option Value → mr_h → Prop), mr_wp 61 34 [v0, v1, v2, v3] st h Q = mr_wp 61 4 [v0, v1, v2, v3] st h Q) ∧
    (∀ (v0 v1 v3 : Value) (x : Int32) (st : List Value) (h : mr_h) (Q : Option Value → mr_h → Prop), mr_wp 61 37 [v0, v1, .int x, v3] st h Q = mr_wp 61 38 [v0, v1, .int x, v3] (.int x :: st) h Q) ∧
    (∀ (v0 v1 v2 v3 : Value) (x : Int32) (h : mr_h) (Q : Option Value → mr_h → Prop), mr_wp 61 38 [v0, v1, v2, v3] [.int x] h Q = Q (some (.int x)) h) :=
  ⟨fun v0 v1 v2 v3 st h Q => gx_one (i := .iconst 0) (len := 1) (by decide +kernel) rfl,
   fun v0 v2 v3 w1 x st h Q => gx_one (i := .istore_n 2) (len := 1) (by decide +kernel) rfl,
   fun v0 v1 v2 v3 st h Q => gx_one (i := .iconst 0) (len := 1) (by decide +kernel) rfl,
   fun v0 v1 v3 w2 x st h Q => gx_one (i := .istore_n 3) (len := 1) (by decide +kernel) rfl,
   fun v1 v2 v3 x st h Q => gx_one (i := .aload_n 0) (len := 1) (by decide +kernel) rfl,
   fun v0 v1 v2 v3 a st h Q => gx_get (x := 36) (by decide +kernel) (by decide +kernel),
   fun v0 v1 v2 v3 x y st h Q => gx_br (i := .if_icmp .ge 28) (len := 3) (c := .ge) (by decide +kernel) rfl rfl,
   fun v0 v2 v3 x st h Q => gx_one (i := .iload_n 1) (len := 1) (by decide +kernel) rfl,
   fun v0 v1 v2 x st h Q => gx_one (i := .iload_n 3) (len := 1) (by decide +kernel) rfl,
   fun v0 v1 v2 v3 a0 a1 h Q => gx_stat (x := 75) (t := 17) (n := 2) (by decide +kernel) (by decide +kernel) (by decide) (by decide +kernel) rfl (Or.inl (Nat.le_of_ble_eq_true rfl)) (by show _ ≤ mr_mxl 17; rw [show mr_mxl 17 = 2 from by decide +kernel]; exact Nat.le_of_ble_eq_true rfl),
   fun v0 v1 v2 v3 x st h Q => gx_br (i := .ifCond .eq 14) (len := 3) (c := .eq) (by decide +kernel) rfl rfl,
   fun v0 v1 v3 x st h Q => gx_one (i := .iload_n 2) (len := 1) (by decide +kernel) rfl,
   fun v1 v2 v3 x st h Q => gx_one (i := .aload_n 0) (len := 1) (by decide +kernel) rfl,
   fun v0 v1 v2 v3 a st h Q => gx_get (x := 33) (by decide +kernel) (by decide +kernel),
   fun v0 v1 v2 x st h Q => gx_one (i := .iload_n 3) (len := 1) (by decide +kernel) rfl,
   fun v0 v1 v2 v3 a x st h Q => gx_iald (by decide +kernel),
   fun v0 v1 v2 v3 x y h Q => gx_max (x := 96) (by decide +kernel) (by decide +kernel) (Nat.le_of_ble_eq_true rfl),
   fun v0 v2 v3 w1 x st h Q => gx_one (i := .istore_n 2) (len := 1) (by decide +kernel) rfl,
   fun v0 v1 x w2 st h Q => gx_one (i := .iinc 3 1) (len := 3) (by decide +kernel) rfl,
   fun v0 v1 v2 v3 st h Q => gx_one (i := .goto (-30)) (len := 3) (by decide +kernel) rfl,
   fun v0 v1 v3 x st h Q => gx_one (i := .iload_n 2) (len := 1) (by decide +kernel) rfl,
   fun v0 v1 v2 v3 x h Q => gx_ret (i := .ireturn) (len := 1) (by decide +kernel) rfl rfl (by simp only [mr_rt, if_pos]; rw [if_pos (Or.inl (by decide +kernel))])⟩
theorem S_rl_adds : (∀ (v1 v2 : Value) (x : Nat) (st : List Value) (h : mr_h) (Q : Option Value → mr_h → Prop), mr_wp 62 0 [.ref x, v1, v2] st h Q = mr_wp 62 1 [.ref x, v1, v2] (.ref x :: st) h Q) ∧
    (∀ (v0 v2 : Value) (x : Int32) (st : List Value) (h : mr_h) (Q : Option Value → mr_h → Prop), mr_wp 62 1 [v0, .int x, v2] st h Q = mr_wp 62 2 [v0, .int x, v2] (.int x :: st) h Q) ∧
    (∀ (v0 v1 : Value) (x : Int32) (st : List Value) (h : mr_h) (Q : Option Value → mr_h → Prop), mr_wp 62 2 [v0, v1, .int x] st h Q = mr_wp 62 3 [v0, v1, .int x] (.int x :: st) h Q) ∧
    (∀ (v0 v1 v2 : Value) (a0 : Int32) (a1 : Int32) (o : Nat) (h : mr_h) (Q : Option Value → mr_h → Prop), mr_wp 62 3 [v0, v1, v2] [.int a1, .int a0, .ref o] h Q = mr_rc (h.1 o) 10 (mr_run 46 [.ref o, .int a0, .int a1] h (fun v h' => mr_wp 62 6 [v0, v1, v2] (v.toList ++ []) h' Q))) ∧
    (∀ (v0 v1 v2 : Value) (x : Int32) (st : List Value) (h : mr_h) (Q : Option Value → mr_h → Prop), mr_wp 62 6 [v0, v1, v2] (.int x :: st) h Q = if ¬ x = 0 then mr_wp 62 11 [v0, v1, v2] st h Q else mr_wp 62 9 [v0, v1, v2] st h Q) ∧
    (∀ (v0 v1 v2 : Value) (st : List Value) (h : mr_h) (Q : Option Value → mr_h → Prop), mr_wp 62 9 [v0, v1, v2] st h Q = mr_wp 62 10 [v0, v1, v2] (.int (-1) :: st) h Q) ∧
    (∀ (v0 v1 v2 : Value) (x : Int32) (h : mr_h) (Q : Option Value → mr_h → Prop), mr_wp 62 10 [v0, v1, v2] [.int x] h Q = Q (some (.int x)) h) ∧
    (∀ (v1 v2 : Value) (x : Nat) (st : List Value) (h : mr_h) (Q : Option Value → mr_h → Prop), mr_wp 62 11 [.ref x, v1, v2] st h Q = mr_wp 62 12 [.ref x, v1, v2] (.ref x :: st) h Q) ∧
    (∀ (v0 v1 v2 : Value) (a : Nat) (st : List Value) (h : mr_h) (Q : Option Value → mr_h → Prop), mr_wp 62 12 [v0, v1, v2] (.ref a :: st) h Q = mr_gf (h.1 a) 10 0 (fun v => mr_wp 62 15 [v0, v1, v2] (v :: st) h Q)) ∧
    (∀ (v0 v2 : Value) (x : Int32) (st : List Value) (h : mr_h) (Q : Option Value → mr_h → Prop), mr_wp 62 15 [v0, .int x, v2] st h Q = mr_wp 62 16 [v0, .int x, v2] (.int x :: st) h Q) ∧
    (∀ (v0 v1 : Value) (x : Int32) (st : List Value) (h : mr_h) (Q : Option Value → mr_h → Prop), mr_wp 62 16 [v0, v1, .int x] st h Q = mr_wp 62 17 [v0, v1, .int x] (.int x :: st) h Q) ∧
    (∀ (v0 v1 v2 : Value) (a0 : Int32) (a1 : Int32) (o : Nat) (h : mr_h) (Q : Option Value → mr_h → Prop), mr_wp 62 17 [v0, v1, v2] [.int a1, .int a0, .ref o] h Q = mr_rc (h.1 o) 3 (mr_run 38 [.ref o, .int a0, .int a1] h (fun v h' => mr_wp 62 20 [v0, v1, v2] (v.toList ++ []) h' Q))) ∧
    (∀ (v0 v1 v2 : Value) (x : Int32) (st : List Value) (h : mr_h) (Q : Option Value → mr_h → Prop), mr_wp 62 20 [v0, v1, v2] (.int x :: st) h Q = if x = 0 then mr_wp 62 26 [v0, v1, v2] st h Q else mr_wp 62 23 [v0, v1, v2] st h Q) ∧
    (∀ (v0 v1 v2 : Value) (st : List Value) (h : mr_h) (Q : Option Value → mr_h → Prop), mr_wp 62 23 [v0, v1, v2] st h Q = mr_wp 62 25 [v0, v1, v2] (.int (-2) :: st) h Q) ∧
    (∀ (v0 v1 v2 : Value) (x : Int32) (h : mr_h) (Q : Option Value → mr_h → Prop), mr_wp 62 25 [v0, v1, v2] [.int x] h Q = Q (some (.int x)) h) ∧
    (∀ (v1 v2 : Value) (x : Nat) (st : List Value) (h : mr_h) (Q : Option Value → mr_h → Prop), mr_wp 62 26 [.ref x, v1, v2] st h Q = mr_wp 62 27 [.ref x, v1, v2] (.ref x :: st) h Q) ∧
    (∀ (v0 v1 v2 : Value) (a : Nat) (st : List Value) (h : mr_h) (Q : Option Value → mr_h → Prop), mr_wp 62 27 [v0, v1, v2] (.ref a :: st) h Q = mr_gf (h.1 a) 10 9 (fun v => mr_wp 62 30 [v0, v1, v2] (v :: st) h Q)) ∧
    (∀ (v1 v2 : Value) (x : Nat) (st : List Value) (h : mr_h) (Q : Option Value → mr_h → Prop), mr_wp 62 30 [.ref x, v1, v2] st h Q = mr_wp 62 31 [.ref x, v1, v2] (.ref x :: st) h Q) ∧
    (∀ (v0 v1 v2 : Value) (a : Nat) (st : List Value) (h : mr_h) (Q : Option Value → mr_h → Prop), mr_wp 62 31 [v0, v1, v2] (.ref a :: st) h Q = mr_gf (h.1 a) 10 0 (fun v => mr_wp 62 34 [v0, v1, v2] (v :: st) h Q)) ∧
    (∀ (v0 v1 v2 : Value) (a0 : Nat) (o : Nat) (h : mr_h) (Q : Option Value → mr_h → Prop), mr_wp 62 34 [v0, v1, v2] [.ref a0, .ref o] h Q = mr_rc (h.1 o) 4 (mr_run 63 [.ref o, .ref a0] h (fun v h' => mr_wp 62 37 [v0, v1, v2] (v.toList ++ []) h' Q))) ∧
    (∀ (v1 v2 : Value) (x : Nat) (st : List Value) (h : mr_h) (Q : Option Value → mr_h → Prop), mr_wp 62 37 [.ref x, v1, v2] st h Q = mr_wp 62 38 [.ref x, v1, v2] (.ref x :: st) h Q) ∧
    (∀ (v0 v1 v2 : Value) (a : Nat) (st : List Value) (h : mr_h) (Q : Option Value → mr_h → Prop), mr_wp 62 38 [v0, v1, v2] (.ref a :: st) h Q = mr_gf (h.1 a) 10 0 (fun v => mr_wp 62 41 [v0, v1, v2] (v :: st) h Q)) ∧
    (∀ (v0 v2 : Value) (x : Int32) (st : List Value) (h : mr_h) (Q : Option Value → mr_h → Prop), mr_wp 62 41 [v0, .int x, v2] st h Q = mr_wp 62 42 [v0, .int x, v2] (.int x :: st) h Q) ∧
    (∀ (v0 v1 : Value) (x : Int32) (st : List Value) (h : mr_h) (Q : Option Value → mr_h → Prop), mr_wp 62 42 [v0, v1, .int x] st h Q = mr_wp 62 43 [v0, v1, .int x] (.int x :: st) h Q) ∧
    (∀ (v0 v1 v2 : Value) (a0 : Int32) (a1 : Int32) (o : Nat) (h : mr_h) (Q : Option Value → mr_h → Prop), mr_wp 62 43 [v0, v1, v2] [.int a1, .int a0, .ref o] h Q = mr_rc (h.1 o) 3 (mr_run 39 [.ref o, .int a0, .int a1] h (fun v h' => mr_wp 62 46 [v0, v1, v2] (v.toList ++ []) h' Q))) ∧
    (∀ (v1 v2 : Value) (x : Nat) (st : List Value) (h : mr_h) (Q : Option Value → mr_h → Prop), mr_wp 62 46 [.ref x, v1, v2] st h Q = mr_wp 62 47 [.ref x, v1, v2] (.ref x :: st) h Q) ∧
    (∀ (v0 v1 v2 : Value) (o : Nat) (h : mr_h) (Q : Option Value → mr_h → Prop), mr_wp 62 47 [v0, v1, v2] [.ref o] h Q = mr_rc (h.1 o) 10 (mr_run 65 [.ref o] h (fun v h' => mr_wp 62 50 [v0, v1, v2] (v.toList ++ []) h' Q))) ∧
    (∀ (v0 v1 v2 : Value) (x : Int32) (h : mr_h) (Q : Option Value → mr_h → Prop), mr_wp 62 50 [v0, v1, v2] [.int x] h Q = Q (some (.int x)) h) :=
  ⟨fun v1 v2 x st h Q => gx_one (i := .aload_n 0) (len := 1) (by decide +kernel) rfl,
   fun v0 v2 x st h Q => gx_one (i := .iload_n 1) (len := 1) (by decide +kernel) rfl,
   fun v0 v1 x st h Q => gx_one (i := .iload_n 2) (len := 1) (by decide +kernel) rfl,
   fun v0 v1 v2 a0 a1 o h Q => gx_virt (x := 134) (n := 2) (by decide +kernel) (by decide +kernel) rfl (Or.inl (Nat.le_of_ble_eq_true rfl)) (by show _ ≤ mr_mxl 46; rw [show mr_mxl 46 = 3 from by decide +kernel]; exact Nat.le_of_ble_eq_true rfl) (by decide +kernel),
   fun v0 v1 v2 x st h Q => gx_br (i := .ifCond .ne 5) (len := 3) (c := .ne) (by decide +kernel) rfl rfl,
   fun v0 v1 v2 st h Q => gx_one (i := .iconst (-1)) (len := 1) (by decide +kernel) rfl,
   fun v0 v1 v2 x h Q => gx_ret (i := .ireturn) (len := 1) (by decide +kernel) rfl rfl (by simp only [mr_rt, if_pos]; rw [if_pos (Or.inl (by decide +kernel))]),
   fun v1 v2 x st h Q => gx_one (i := .aload_n 0) (len := 1) (by decide +kernel) rfl,
   fun v0 v1 v2 a st h Q => gx_get (x := 10) (by decide +kernel) (by decide +kernel),
   fun v0 v2 x st h Q => gx_one (i := .iload_n 1) (len := 1) (by decide +kernel) rfl,
   fun v0 v1 x st h Q => gx_one (i := .iload_n 2) (len := 1) (by decide +kernel) rfl,
   fun v0 v1 v2 a0 a1 o h Q => gx_virt (x := 138) (n := 2) (by decide +kernel) (by decide +kernel) rfl (Or.inl (Nat.le_of_ble_eq_true rfl)) (by show _ ≤ mr_mxl 38; rw [show mr_mxl 38 = 3 from by decide +kernel]; exact Nat.le_of_ble_eq_true rfl) (by decide +kernel),
   fun v0 v1 v2 x st h Q => gx_br (i := .ifCond .eq 6) (len := 3) (c := .eq) (by decide +kernel) rfl rfl,
   fun v0 v1 v2 st h Q => gx_one (i := .bipush (-2)) (len := 2) (by decide +kernel) rfl,
   fun v0 v1 v2 x h Q => gx_ret (i := .ireturn) (len := 1) (by decide +kernel) rfl rfl (by simp only [mr_rt, if_pos]; rw [if_pos (Or.inl (by decide +kernel))]),
   fun v1 v2 x st h Q => gx_one (i := .aload_n 0) (len := 1) (by decide +kernel) rfl,
   fun v0 v1 v2 a st h Q => gx_get (x := 71) (by decide +kernel) (by decide +kernel),
   fun v1 v2 x st h Q => gx_one (i := .aload_n 0) (len := 1) (by decide +kernel) rfl,
   fun v0 v1 v2 a st h Q => gx_get (x := 10) (by decide +kernel) (by decide +kernel),
   fun v0 v1 v2 a0 o h Q => gx_virt (x := 163) (n := 1) (by decide +kernel) (by decide +kernel) rfl (Or.inl (Nat.le_of_ble_eq_true rfl)) (by show _ ≤ mr_mxl 63; rw [show mr_mxl 63 = 2 from by decide +kernel]; exact Nat.le_of_ble_eq_true rfl) (by decide +kernel),
   fun v1 v2 x st h Q => gx_one (i := .aload_n 0) (len := 1) (by decide +kernel) rfl,
   fun v0 v1 v2 a st h Q => gx_get (x := 10) (by decide +kernel) (by decide +kernel),
   fun v0 v2 x st h Q => gx_one (i := .iload_n 1) (len := 1) (by decide +kernel) rfl,
   fun v0 v1 x st h Q => gx_one (i := .iload_n 2) (len := 1) (by decide +kernel) rfl,
   fun v0 v1 v2 a0 a1 o h Q => gx_virt (x := 166) (n := 2) (by decide +kernel) (by decide +kernel) rfl (Or.inl (Nat.le_of_ble_eq_true rfl)) (by show _ ≤ mr_mxl 39; rw [show mr_mxl 39 = 3 from by decide +kernel]; exact Nat.le_of_ble_eq_true rfl) (by decide +kernel),
   fun v1 v2 x st h Q => gx_one (i := .aload_n 0) (len := 1) (by decide +kernel) rfl,
   fun v0 v1 v2 o h Q => gx_virt (x := 170) (n := 0) (by decide +kernel) (by decide +kernel) rfl (Or.inl (Nat.le_of_ble_eq_true rfl)) (by show _ ≤ mr_mxl 65; rw [show mr_mxl 65 = 1 from by decide +kernel]; exact Nat.le_of_ble_eq_true rfl) (by decide +kernel),
   fun v0 v1 v2 x h Q => gx_ret (i := .ireturn) (len := 1) (by decide +kernel) rfl rfl (by simp only [mr_rt, if_pos]; rw [if_pos (Or.inl (by decide +kernel))])⟩
theorem S_pa_remember : (∀ (v1 : Value) (x : Nat) (st : List Value) (h : mr_h) (Q : Option Value → mr_h → Prop), mr_wp 63 0 [.ref x, v1] st h Q = mr_wp 63 1 [.ref x, v1] (.ref x :: st) h Q) ∧
    (∀ (v0 v1 : Value) (a : Nat) (st : List Value) (h : mr_h) (Q : Option Value → mr_h → Prop), mr_wp 63 1 [v0, v1] (.ref a :: st) h Q = mr_gf (h.1 a) 4 0 (fun v => mr_wp 63 4 [v0, v1] (v :: st) h Q)) ∧
    (∀ (v0 v1 : Value) (st : List Value) (h : mr_h) (Q : Option Value → mr_h → Prop), mr_wp 63 4 [v0, v1] st h Q = mr_wp 63 6 [v0, v1] (.int (10) :: st) h Q) ∧
    (∀ (v0 v1 : Value) (x : Int32) (y : Int32) (st : List Value) (h : mr_h) (Q : Option Value → mr_h → Prop), mr_wp 63 6 [v0, v1] (.int y :: .int x :: st) h Q = if ¬ x = y then mr_wp 63 13 [v0, v1] st h Q else mr_wp 63 9 [v0, v1] st h Q) ∧
    (∀ (v1 : Value) (x : Nat) (st : List Value) (h : mr_h) (Q : Option Value → mr_h → Prop), mr_wp 63 9 [.ref x, v1] st h Q = mr_wp 63 10 [.ref x, v1] (.ref x :: st) h Q) ∧
    (∀ (v0 v1 : Value) (o : Nat) (h : mr_h) (Q : Option Value → mr_h → Prop), mr_wp 63 10 [v0, v1] [.ref o] h Q = mr_rc (h.1 o) 4 (mr_run 64 [.ref o] h (fun v h' => mr_wp 63 13 [v0, v1] (v.toList ++ []) h' Q))) ∧
    (∀ (v1 : Value) (x : Nat) (st : List Value) (h : mr_h) (Q : Option Value → mr_h → Prop), mr_wp 63 13 [.ref x, v1] st h Q = mr_wp 63 14 [.ref x, v1] (.ref x :: st) h Q) ∧
    (∀ (v0 v1 : Value) (a : Nat) (st : List Value) (h : mr_h) (Q : Option Value → mr_h → Prop), mr_wp 63 14 [v0, v1] (.ref a :: st) h Q = mr_gf (h.1 a) 4 1 (fun v => mr_wp 63 17 [v0, v1] (v :: st) h Q)) ∧
    (∀ (v1 : Value) (x : Nat) (st : List Value) (h : mr_h) (Q : Option Value → mr_h → Prop), mr_wp 63 17 [.ref x, v1] st h Q = mr_wp 63 18 [.ref x, v1] (.ref x :: st) h Q) ∧
    (∀ (v0 v1 : Value) (a : Nat) (st : List Value) (h : mr_h) (Q : Option Value → mr_h → Prop), mr_wp 63 18 [v0, v1] (.ref a :: st) h Q = mr_gf (h.1 a) 4 0 (fun v => mr_wp 63 21 [v0, v1] (v :: st) h Q)) ∧
    (∀ (v0 v1 : Value) (a : Nat) (x : Int32) (st : List Value) (h : mr_h) (Q : Option Value → mr_h → Prop), mr_wp 63 21 [v0, v1] (.int x :: .ref a :: st) h Q = mr_aq (h.1 a) x (fun v => mr_wp 63 22 [v0, v1] (.ref v :: st) h Q)) ∧
    (∀ (v0 : Value) (x : Nat) (st : List Value) (h : mr_h) (Q : Option Value → mr_h → Prop), mr_wp 63 22 [v0, .ref x] st h Q = mr_wp 63 23 [v0, .ref x] (.ref x :: st) h Q) ∧
    (∀ (v0 v1 : Value) (a0 : Nat) (o : Nat) (h : mr_h) (Q : Option Value → mr_h → Prop), mr_wp 63 23 [v0, v1] [.ref a0, .ref o] h Q = mr_rc (h.1 o) 3 (mr_run 41 [.ref o, .ref a0] h (fun v h' => mr_wp 63 26 [v0, v1] (v.toList ++ []) h' Q))) ∧
    (∀ (v1 : Value) (x : Nat) (st : List Value) (h : mr_h) (Q : Option Value → mr_h → Prop), mr_wp 63 26 [.ref x, v1] st h Q = mr_wp 63 27 [.ref x, v1] (.ref x :: st) h Q) ∧
    (∀ (v0 v1 : Value) (x : Nat) (st : List Value) (h : mr_h) (Q : Option Value → mr_h → Prop), mr_wp 63 27 [v0, v1] (.ref x :: st) h Q = mr_wp 63 28 [v0, v1] (.ref x :: .ref x :: st) h Q) ∧
    (∀ (v0 v1 : Value) (a : Nat) (st : List Value) (h : mr_h) (Q : Option Value → mr_h → Prop), mr_wp 63 28 [v0, v1] (.ref a :: st) h Q = mr_gf (h.1 a) 4 0 (fun v => mr_wp 63 31 [v0, v1] (v :: st) h Q)) ∧
    (∀ (v0 v1 : Value) (st : List Value) (h : mr_h) (Q : Option Value → mr_h → Prop), mr_wp 63 31 [v0, v1] st h Q = mr_wp 63 32 [v0, v1] (.int (1) :: st) h Q) ∧
    (∀ (v0 v1 : Value) (x : Int32) (y : Int32) (st : List Value) (h : mr_h) (Q : Option Value → mr_h → Prop), mr_wp 63 32 [v0, v1] (.int y :: .int x :: st) h Q = mr_wp 63 33 [v0, v1] (.int (x + y) :: st) h Q) ∧
    (∀ (v0 v1 : Value) (a : Nat) (x : Int32) (st : List Value) (h : mr_h) (Q : Option Value → mr_h → Prop), mr_wp 63 33 [v0, v1] (.int x :: .ref a :: st) h Q = mr_pf (h.1 a) 4 0 (.int x) (fun c => mr_wp 63 36 [v0, v1] st (mr_up h a c) Q)) ∧
    (∀ (v0 v1 : Value) (h : mr_h) (Q : Option Value → mr_h → Prop), mr_wp 63 36 [v0, v1] [] h Q = Q none h) :=
  ⟨fun v1 x st h Q => gx_one (i := .aload_n 0) (len := 1) (by decide +kernel) rfl,
   fun v0 v1 a st h Q => gx_get (x := 9) (by decide +kernel) (by decide +kernel),
   fun v0 v1 st h Q => gx_one (i := .bipush 10) (len := 2) (by decide +kernel) rfl,
   fun v0 v1 x y st h Q => gx_br (i := .if_icmp .ne 7) (len := 3) (c := .ne) (by decide +kernel) rfl rfl,
   fun v1 x st h Q => gx_one (i := .aload_n 0) (len := 1) (by decide +kernel) rfl,
   fun v0 v1 o h Q => gx_virt (x := 22) (n := 0) (by decide +kernel) (by decide +kernel) rfl (Or.inl (Nat.le_of_ble_eq_true rfl)) (by show _ ≤ mr_mxl 64; rw [show mr_mxl 64 = 3 from by decide +kernel]; exact Nat.le_of_ble_eq_true rfl) (by decide +kernel),
   fun v1 x st h Q => gx_one (i := .aload_n 0) (len := 1) (by decide +kernel) rfl,
   fun v0 v1 a st h Q => gx_get (x := 17) (by decide +kernel) (by decide +kernel),
   fun v1 x st h Q => gx_one (i := .aload_n 0) (len := 1) (by decide +kernel) rfl,
   fun v0 v1 a st h Q => gx_get (x := 9) (by decide +kernel) (by decide +kernel),
   fun v0 v1 a x st h Q => gx_qald (by decide +kernel),
   fun v0 x st h Q => gx_one (i := .aload_n 1) (len := 1) (by decide +kernel) rfl,
   fun v0 v1 a0 o h Q => gx_virt (x := 25) (n := 1) (by decide +kernel) (by decide +kernel) rfl (Or.inl (Nat.le_of_ble_eq_true rfl)) (by show _ ≤ mr_mxl 41; rw [show mr_mxl 41 = 2 from by decide +kernel]; exact Nat.le_of_ble_eq_true rfl) (by decide +kernel),
   fun v1 x st h Q => gx_one (i := .aload_n 0) (len := 1) (by decide +kernel) rfl,
   fun v0 v1 x st h Q => gx_one (i := .dup) (len := 1) (by decide +kernel) rfl,
   fun v0 v1 a st h Q => gx_get (x := 9) (by decide +kernel) (by decide +kernel),
   fun v0 v1 st h Q => gx_one (i := .iconst 1) (len := 1) (by decide +kernel) rfl,
   fun v0 v1 x y st h Q => gx_one (i := .iadd) (len := 1) (by decide +kernel) rfl,
   fun v0 v1 a x st h Q => gx_put (x := 9) (by decide +kernel) (by decide +kernel) ⟨rfl, Or.inl rfl⟩,
   fun v0 v1 h Q => gx_ret (i := .return_) (len := 1) (by decide +kernel) rfl rfl (by simp only [mr_rt, if_pos]; rw [if_pos (by decide +kernel)])⟩
theorem s_pa_dropOldest_9 (v0 v1 : Value) (x : Int32) (st : List Value) (h : mr_h) (Q : Option Value → mr_h → Prop) : mr_wp 64 9 [v0, v1, .int x] st h Q = mr_wp 64 10 [v0, v1, .int x] (.int x :: st) h Q := gx_one (i := .iload_n 2) (len := 1) (by decide +kernel) rfl
theorem S_pa_dropOldest : (∀ (v1 v2 : Value) (x : Nat) (st : List Value) (h : mr_h) (Q : Option Value → mr_h → Prop), mr_wp 64 0 [.ref x, v1, v2] st h Q = mr_wp 64 1 [.ref x, v1, v2] (.ref x :: st) h Q) ∧
    (∀ (v0 v1 v2 : Value) (a : Nat) (st : List Value) (h : mr_h) (Q : Option Value → mr_h → Prop), mr_wp 64 1 [v0, v1, v2] (.ref a :: st) h Q = mr_gf (h.1 a) 4 1 (fun v => mr_wp 64 4 [v0, v1, v2] (v :: st) h Q)) ∧
    (∀ (v0 v1 v2 : Value) (st : List Value) (h : mr_h) (Q : Option Value → mr_h → Prop), mr_wp 64 4 [v0, v1, v2] st h Q = mr_wp 64 5 [v0, v1, v2] (.int (0) :: st) h Q) ∧
    (∀ (v0 v1 v2 : Value) (a : Nat) (x : Int32) (st : List Value) (h : mr_h) (Q : Option Value → mr_h → Prop), mr_wp 64 5 [v0, v1, v2] (.int x :: .ref a :: st) h Q = mr_aq (h.1 a) x (fun v => mr_wp 64 6 [v0, v1, v2] (.ref v :: st) h Q)) ∧
    (∀ (v1 v2 : Value) (w0 : Nat) (x : Nat) (st : List Value) (h : mr_h) (Q : Option Value → mr_h → Prop), mr_wp 64 6 [.ref w0, v1, v2] (.ref x :: st) h Q = mr_wp 64 7 [.ref w0, .ref x, v2] st h Q) ∧
    (∀ (v0 v1 v2 : Value) (st : List Value) (h : mr_h) (Q : Option Value → mr_h → Prop), mr_wp 64 7 [v0, v1, v2] st h Q = mr_wp 64 8 [v0, v1, v2] (.int (1) :: st) h Q) ∧
    (∀ (v0 v2 : Value) (w1 : Nat) (x : Int32) (st : List Value) (h : mr_h) (Q : Option Value → mr_h → Prop), mr_wp 64 8 [v0, .ref w1, v2] (.int x :: st) h Q = mr_wp 64 9 [v0, .ref w1, .int x] st h Q) ∧
    (∀ (v0 v1 v2 : Value) (st : List Value) (h : mr_h) (Q : Option Value → mr_h → Prop), mr_wp 64 10 [v0, v1, v2] st h Q = mr_wp 64 12 [v0, v1, v2] (.int (10) :: st) h Q) ∧
    (∀ (v0 v1 v2 : Value) (x : Int32) (y : Int32) (st : List Value) (h : mr_h) (Q : Option Value → mr_h → Prop), mr_wp 64 12 [v0, v1, v2] (.int y :: .int x :: st) h Q = if y ≤ x then mr_wp 64 35 [v0, v1, v2] st h Q else mr_wp 64 15 [v0, v1, v2] st h Q) ∧
    (∀ (v1 v2 : Value) (x : Nat) (st : List Value) (h : mr_h) (Q : Option Value → mr_h → Prop), mr_wp 64 15 [.ref x, v1, v2] st h Q = mr_wp 64 16 [.ref x, v1, v2] (.ref x :: st) h Q) ∧
    (∀ (v0 v1 v2 : Value) (a : Nat) (st : List Value) (h : mr_h) (Q : Option Value → mr_h → Prop), mr_wp 64 16 [v0, v1, v2] (.ref a :: st) h Q = mr_gf (h.1 a) 4 1 (fun v => mr_wp 64 19 [v0, v1, v2] (v :: st) h Q)) ∧
    (∀ (v0 v1 : Value) (x : Int32) (st : List Value) (h : mr_h) (Q : Option Value → mr_h → Prop), mr_wp 64 19 [v0, v1, .int x] st h Q = mr_wp 64 20 [v0, v1, .int x] (.int x :: st) h Q) ∧
    (∀ (v0 v1 v2 : Value) (st : List Value) (h : mr_h) (Q : Option Value → mr_h → Prop), mr_wp 64 20 [v0, v1, v2] st h Q = mr_wp 64 21 [v0, v1, v2] (.int (1) :: st) h Q) ∧
    (∀ (v0 v1 v2 : Value) (x : Int32) (y : Int32) (st : List Value) (h : mr_h) (Q : Option Value → mr_h → Prop), mr_wp 64 21 [v0, v1, v2] (.int y :: .int x :: st) h Q = mr_wp 64 22 [v0, v1, v2] (.int (x - y) :: st) h Q) ∧
    (∀ (v1 v2 : Value) (x : Nat) (st : List Value) (h : mr_h) (Q : Option Value → mr_h → Prop), mr_wp 64 22 [.ref x, v1, v2] st h Q = mr_wp 64 23 [.ref x, v1, v2] (.ref x :: st) h Q) ∧
    (∀ (v0 v1 v2 : Value) (a : Nat) (st : List Value) (h : mr_h) (Q : Option Value → mr_h → Prop), mr_wp 64 23 [v0, v1, v2] (.ref a :: st) h Q = mr_gf (h.1 a) 4 1 (fun v => mr_wp 64 26 [v0, v1, v2] (v :: st) h Q)) ∧
    (∀ (v0 v1 : Value) (x : Int32) (st : List Value) (h : mr_h) (Q : Option Value → mr_h → Prop), mr_wp 64 26 [v0, v1, .int x] st h Q = mr_wp 64 27 [v0, v1, .int x] (.int x :: st) h Q) ∧
    (∀ (v0 v1 v2 : Value) (a : Nat) (x : Int32) (st : List Value) (h : mr_h) (Q : Option Value → mr_h → Prop), mr_wp 64 27 [v0, v1, v2] (.int x :: .ref a :: st) h Q = mr_aq (h.1 a) x (fun v => mr_wp 64 28 [v0, v1, v2] (.ref v :: st) h Q)) ∧
    (∀ (v0 v1 v2 : Value) (a : Nat) (x : Int32) (y : Nat) (st : List Value) (h : mr_h) (Q : Option Value → mr_h → Prop), mr_wp 64 28 [v0, v1, v2] (.ref y :: .int x :: .ref a :: st) h Q = mr_sq (h.1 a) (h.1 y) x y (fun c => mr_wp 64 29 [v0, v1, v2] st (mr_up h a c) Q)) ∧
    (∀ (v0 : Value) (x : Int32) (w1 : Nat) (st : List Value) (h : mr_h) (Q : Option Value → mr_h → Prop), mr_wp 64 29 [v0, .ref w1, .int x] st h Q = mr_wp 64 32 [v0, .ref w1, .int (x + (1))] st h Q) ∧
    (∀ (v0 v1 v2 : Value) (st : List Value) (h : mr_h) (Q : Option Value → mr_h → Prop), mr_wp 64 32 [v0, v1, v2] st h Q = mr_wp 64 9 [v0, v1, v2] st h Q) ∧
    (∀ (v1 v2 : Value) (x : Nat) (st : List Value) (h : mr_h) (Q : Option Value → mr_h → Prop), mr_wp 64 35 [.ref x, v1, v2] st h Q = mr_wp 64 36 [.ref x, v1, v2] (.ref x :: st) h Q) ∧
    (∀ (v0 v1 v2 : Value) (a : Nat) (st : List Value) (h : mr_h) (Q : Option Value → mr_h → Prop), mr_wp 64 36 [v0, v1, v2] (.ref a :: st) h Q = mr_gf (h.1 a) 4 1 (fun v => mr_wp 64 39 [v0, v1, v2] (v :: st) h Q)) ∧
    (∀ (v0 v1 v2 : Value) (st : List Value) (h : mr_h) (Q : Option Value → mr_h → Prop), mr_wp 64 39 [v0, v1, v2] st h Q = mr_wp 64 41 [v0, v1, v2] (.int (9) :: st) h Q) ∧
    (∀ (v0 v2 : Value) (x : Nat) (st : List Value) (h : mr_h) (Q : Option Value → mr_h → Prop), mr_wp 64 41 [v0, .ref x, v2] st h Q = mr_wp 64 42 [v0, .ref x, v2] (.ref x :: st) h Q) ∧
    (∀ (v0 v1 v2 : Value) (a : Nat) (x : Int32) (y : Nat) (st : List Value) (h : mr_h) (Q : Option Value → mr_h → Prop), mr_wp 64 42 [v0, v1, v2] (.ref y :: .int x :: .ref a :: st) h Q = mr_sq (h.1 a) (h.1 y) x y (fun c => mr_wp 64 43 [v0, v1, v2] st (mr_up h a c) Q)) ∧
    (∀ (v1 v2 : Value) (x : Nat) (st : List Value) (h : mr_h) (Q : Option Value → mr_h → Prop), mr_wp 64 43 [.ref x, v1, v2] st h Q = mr_wp 64 44 [.ref x, v1, v2] (.ref x :: st) h Q) ∧
    (∀ (v0 v1 v2 : Value) (x : Nat) (st : List Value) (h : mr_h) (Q : Option Value → mr_h → Prop), mr_wp 64 44 [v0, v1, v2] (.ref x :: st) h Q = mr_wp 64 45 [v0, v1, v2] (.ref x :: .ref x :: st) h Q) ∧
    (∀ (v0 v1 v2 : Value) (a : Nat) (st : List Value) (h : mr_h) (Q : Option Value → mr_h → Prop), mr_wp 64 45 [v0, v1, v2] (.ref a :: st) h Q = mr_gf (h.1 a) 4 0 (fun v => mr_wp 64 48 [v0, v1, v2] (v :: st) h Q)) ∧
    (∀ (v0 v1 v2 : Value) (st : List Value) (h : mr_h) (Q : Option Value → mr_h → Prop), mr_wp 64 48 [v0, v1, v2] st h Q = mr_wp 64 49 [v0, v1, v2] (.int (1) :: st) h Q) ∧
    (∀ (v0 v1 v2 : Value) (x : Int32) (y : Int32) (st : List Value) (h : mr_h) (Q : Option Value → mr_h → Prop), mr_wp 64 49 [v0, v1, v2] (.int y :: .int x :: st) h Q = mr_wp 64 50 [v0, v1, v2] (.int (x - y) :: st) h Q) ∧
    (∀ (v0 v1 v2 : Value) (a : Nat) (x : Int32) (st : List Value) (h : mr_h) (Q : Option Value → mr_h → Prop), mr_wp 64 50 [v0, v1, v2] (.int x :: .ref a :: st) h Q = mr_pf (h.1 a) 4 0 (.int x) (fun c => mr_wp 64 53 [v0, v1, v2] st (mr_up h a c) Q)) ∧
    (∀ (v0 v1 v2 : Value) (h : mr_h) (Q : Option Value → mr_h → Prop), mr_wp 64 53 [v0, v1, v2] [] h Q = Q none h) :=
  ⟨fun v1 v2 x st h Q => gx_one (i := .aload_n 0) (len := 1) (by decide +kernel) rfl,
   fun v0 v1 v2 a st h Q => gx_get (x := 17) (by decide +kernel) (by decide +kernel),
   fun v0 v1 v2 st h Q => gx_one (i := .iconst 0) (len := 1) (by decide +kernel) rfl,
   fun v0 v1 v2 a x st h Q => gx_qald (by decide +kernel),
   fun v1 v2 w0 x st h Q => gx_one (i := .astore_n 1) (len := 1) (by decide +kernel) rfl,
   fun v0 v1 v2 st h Q => gx_one (i := .iconst 1) (len := 1) (by decide +kernel) rfl,
   fun v0 v2 w1 x st h Q => gx_one (i := .istore_n 2) (len := 1) (by decide +kernel) rfl,
   fun v0 v1 v2 st h Q => gx_one (i := .bipush 10) (len := 2) (by decide +kernel) rfl,
   fun v0 v1 v2 x y st h Q => gx_br (i := .if_icmp .ge 23) (len := 3) (c := .ge) (by decide +kernel) rfl rfl,
   fun v1 v2 x st h Q => gx_one (i := .aload_n 0) (len := 1) (by decide +kernel) rfl,
   fun v0 v1 v2 a st h Q => gx_get (x := 17) (by decide +kernel) (by decide +kernel),
   fun v0 v1 x st h Q => gx_one (i := .iload_n 2) (len := 1) (by decide +kernel) rfl,
   fun v0 v1 v2 st h Q => gx_one (i := .iconst 1) (len := 1) (by decide +kernel) rfl,
   fun v0 v1 v2 x y st h Q => gx_one (i := .isub) (len := 1) (by decide +kernel) rfl,
   fun v1 v2 x st h Q => gx_one (i := .aload_n 0) (len := 1) (by decide +kernel) rfl,
   fun v0 v1 v2 a st h Q => gx_get (x := 17) (by decide +kernel) (by decide +kernel),
   fun v0 v1 x st h Q => gx_one (i := .iload_n 2) (len := 1) (by decide +kernel) rfl,
   fun v0 v1 v2 a x st h Q => gx_qald (by decide +kernel),
   fun v0 v1 v2 a x y st h Q => gx_qast (by decide +kernel),
   fun v0 x w1 st h Q => gx_one (i := .iinc 2 1) (len := 3) (by decide +kernel) rfl,
   fun v0 v1 v2 st h Q => gx_one (i := .goto (-23)) (len := 3) (by decide +kernel) rfl,
   fun v1 v2 x st h Q => gx_one (i := .aload_n 0) (len := 1) (by decide +kernel) rfl,
   fun v0 v1 v2 a st h Q => gx_get (x := 17) (by decide +kernel) (by decide +kernel),
   fun v0 v1 v2 st h Q => gx_one (i := .bipush 9) (len := 2) (by decide +kernel) rfl,
   fun v0 v2 x st h Q => gx_one (i := .aload_n 1) (len := 1) (by decide +kernel) rfl,
   fun v0 v1 v2 a x y st h Q => gx_qast (by decide +kernel),
   fun v1 v2 x st h Q => gx_one (i := .aload_n 0) (len := 1) (by decide +kernel) rfl,
   fun v0 v1 v2 x st h Q => gx_one (i := .dup) (len := 1) (by decide +kernel) rfl,
   fun v0 v1 v2 a st h Q => gx_get (x := 9) (by decide +kernel) (by decide +kernel),
   fun v0 v1 v2 st h Q => gx_one (i := .iconst 1) (len := 1) (by decide +kernel) rfl,
   fun v0 v1 v2 x y st h Q => gx_one (i := .isub) (len := 1) (by decide +kernel) rfl,
   fun v0 v1 v2 a x st h Q => gx_put (x := 9) (by decide +kernel) (by decide +kernel) ⟨rfl, Or.inl rfl⟩,
   fun v0 v1 v2 h Q => gx_ret (i := .return_) (len := 1) (by decide +kernel) rfl rfl (by simp only [mr_rt, if_pos]; rw [if_pos (by decide +kernel)])⟩
theorem S_rl_labelsThen : (∀ (x : Nat) (st : List Value) (h : mr_h) (Q : Option Value → mr_h → Prop), mr_wp 65 0 [.ref x] st h Q = mr_wp 65 1 [.ref x] (.ref x :: st) h Q) ∧
    (∀ (v0 : Value) (a : Nat) (st : List Value) (h : mr_h) (Q : Option Value → mr_h → Prop), mr_wp 65 1 [v0] (.ref a :: st) h Q = mr_gf (h.1 a) 10 3 (fun v => mr_wp 65 4 [v0] (v :: st) h Q)) ∧
    (∀ (x : Nat) (st : List Value) (h : mr_h) (Q : Option Value → mr_h → Prop), mr_wp 65 4 [.ref x] st h Q = mr_wp 65 5 [.ref x] (.ref x :: st) h Q) ∧
    (∀ (v0 : Value) (a : Nat) (st : List Value) (h : mr_h) (Q : Option Value → mr_h → Prop), mr_wp 65 5 [v0] (.ref a :: st) h Q = mr_gf (h.1 a) 10 0 (fun v => mr_wp 65 8 [v0] (v :: st) h Q)) ∧
    (∀ (v0 : Value) (a0 : Nat) (o : Nat) (h : mr_h) (Q : Option Value → mr_h → Prop), mr_wp 65 8 [v0] [.ref a0, .ref o] h Q = mr_rc (h.1 o) 6 (mr_run 14 [.ref o, .ref a0] h (fun v h' => mr_wp 65 11 [v0] (v.toList ++ []) h' Q))) ∧
    (∀ (x : Nat) (st : List Value) (h : mr_h) (Q : Option Value → mr_h → Prop), mr_wp 65 11 [.ref x] st h Q = mr_wp 65 12 [.ref x] (.ref x :: st) h Q) ∧
    (∀ (v0 : Value) (a : Nat) (st : List Value) (h : mr_h) (Q : Option Value → mr_h → Prop), mr_wp 65 12 [v0] (.ref a :: st) h Q = mr_gf (h.1 a) 10 3 (fun v => mr_wp 65 15 [v0] (v :: st) h Q)) ∧
    (∀ (v0 : Value) (o : Nat) (h : mr_h) (Q : Option Value → mr_h → Prop), mr_wp 65 15 [v0] [.ref o] h Q = mr_rc (h.1 o) 6 (mr_run 52 [.ref o] h (fun v h' => mr_wp 65 18 [v0] (v.toList ++ []) h' Q))) ∧
    (∀ (v0 : Value) (x : Int32) (h : mr_h) (Q : Option Value → mr_h → Prop), mr_wp 65 18 [v0] [.int x] h Q = Q (some (.int x)) h) :=
  ⟨fun x st h Q => gx_one (i := .aload_n 0) (len := 1) (by decide +kernel) rfl,
   fun v0 a st h Q => gx_get (x := 29) (by decide +kernel) (by decide +kernel),
   fun x st h Q => gx_one (i := .aload_n 0) (len := 1) (by decide +kernel) rfl,
   fun v0 a st h Q => gx_get (x := 10) (by decide +kernel) (by decide +kernel),
   fun v0 a0 o h Q => gx_virt (x := 82) (n := 1) (by decide +kernel) (by decide +kernel) rfl (Or.inl (Nat.le_of_ble_eq_true rfl)) (by show _ ≤ mr_mxl 14; rw [show mr_mxl 14 = 2 from by decide +kernel]; exact Nat.le_of_ble_eq_true rfl) (by decide +kernel),
   fun x st h Q => gx_one (i := .aload_n 0) (len := 1) (by decide +kernel) rfl,
   fun v0 a st h Q => gx_get (x := 29) (by decide +kernel) (by decide +kernel),
   fun v0 o h Q => gx_virt (x := 148) (n := 0) (by decide +kernel) (by decide +kernel) rfl (Or.inl (Nat.le_of_ble_eq_true rfl)) (by show _ ≤ mr_mxl 52; rw [show mr_mxl 52 = 3 from by decide +kernel]; exact Nat.le_of_ble_eq_true rfl) (by decide +kernel),
   fun v0 x h Q => gx_ret (i := .ireturn) (len := 1) (by decide +kernel) rfl rfl (by simp only [mr_rt, if_pos]; rw [if_pos (Or.inl (by decide +kernel))])⟩
theorem S_rl_cuts : (∀ (v1 v2 : Value) (x : Nat) (st : List Value) (h : mr_h) (Q : Option Value → mr_h → Prop), mr_wp 66 0 [.ref x, v1, v2] st h Q = mr_wp 66 1 [.ref x, v1, v2] (.ref x :: st) h Q) ∧
    (∀ (v0 v2 : Value) (x : Int32) (st : List Value) (h : mr_h) (Q : Option Value → mr_h → Prop), mr_wp 66 1 [v0, .int x, v2] st h Q = mr_wp 66 2 [v0, .int x, v2] (.int x :: st) h Q) ∧
    (∀ (v0 v1 : Value) (x : Int32) (st : List Value) (h : mr_h) (Q : Option Value → mr_h → Prop), mr_wp 66 2 [v0, v1, .int x] st h Q = mr_wp 66 3 [v0, v1, .int x] (.int x :: st) h Q) ∧
    (∀ (v0 v1 v2 : Value) (a0 : Int32) (a1 : Int32) (o : Nat) (h : mr_h) (Q : Option Value → mr_h → Prop), mr_wp 66 3 [v0, v1, v2] [.int a1, .int a0, .ref o] h Q = mr_rc (h.1 o) 10 (mr_run 46 [.ref o, .int a0, .int a1] h (fun v h' => mr_wp 66 6 [v0, v1, v2] (v.toList ++ []) h' Q))) ∧
    (∀ (v0 v1 v2 : Value) (x : Int32) (st : List Value) (h : mr_h) (Q : Option Value → mr_h → Prop), mr_wp 66 6 [v0, v1, v2] (.int x :: st) h Q = if ¬ x = 0 then mr_wp 66 11 [v0, v1, v2] st h Q else mr_wp 66 9 [v0, v1, v2] st h Q) ∧
    (∀ (v0 v1 v2 : Value) (st : List Value) (h : mr_h) (Q : Option Value → mr_h → Prop), mr_wp 66 9 [v0, v1, v2] st h Q = mr_wp 66 10 [v0, v1, v2] (.int (-1) :: st) h Q) ∧
    (∀ (v0 v1 v2 : Value) (x : Int32) (h : mr_h) (Q : Option Value → mr_h → Prop), mr_wp 66 10 [v0, v1, v2] [.int x] h Q = Q (some (.int x)) h) ∧
    (∀ (v1 v2 : Value) (x : Nat) (st : List Value) (h : mr_h) (Q : Option Value → mr_h → Prop), mr_wp 66 11 [.ref x, v1, v2] st h Q = mr_wp 66 12 [.ref x, v1, v2] (.ref x :: st) h Q) ∧
    (∀ (v0 v1 v2 : Value) (a : Nat) (st : List Value) (h : mr_h) (Q : Option Value → mr_h → Prop), mr_wp 66 12 [v0, v1, v2] (.ref a :: st) h Q = mr_gf (h.1 a) 10 0 (fun v => mr_wp 66 15 [v0, v1, v2] (v :: st) h Q)) ∧
    (∀ (v0 v2 : Value) (x : Int32) (st : List Value) (h : mr_h) (Q : Option Value → mr_h → Prop), mr_wp 66 15 [v0, .int x, v2] st h Q = mr_wp 66 16 [v0, .int x, v2] (.int x :: st) h Q) ∧
    (∀ (v0 v1 : Value) (x : Int32) (st : List Value) (h : mr_h) (Q : Option Value → mr_h → Prop), mr_wp 66 16 [v0, v1, .int x] st h Q = mr_wp 66 17 [v0, v1, .int x] (.int x :: st) h Q) ∧
    (∀ (v0 v1 v2 : Value) (a0 : Int32) (a1 : Int32) (o : Nat) (h : mr_h) (Q : Option Value → mr_h → Prop), mr_wp 66 17 [v0, v1, v2] [.int a1, .int a0, .ref o] h Q = mr_rc (h.1 o) 3 (mr_run 38 [.ref o, .int a0, .int a1] h (fun v h' => mr_wp 66 20 [v0, v1, v2] (v.toList ++ []) h' Q))) ∧
    (∀ (v0 v1 v2 : Value) (x : Int32) (st : List Value) (h : mr_h) (Q : Option Value → mr_h → Prop), mr_wp 66 20 [v0, v1, v2] (.int x :: st) h Q = if ¬ x = 0 then mr_wp 66 26 [v0, v1, v2] st h Q else mr_wp 66 23 [v0, v1, v2] st h Q) ∧
    (∀ (v0 v1 v2 : Value) (st : List Value) (h : mr_h) (Q : Option Value → mr_h → Prop), mr_wp 66 23 [v0, v1, v2] st h Q = mr_wp 66 25 [v0, v1, v2] (.int (-2) :: st) h Q) ∧
    (∀ (v0 v1 v2 : Value) (x : Int32) (h : mr_h) (Q : Option Value → mr_h → Prop), mr_wp 66 25 [v0, v1, v2] [.int x] h Q = Q (some (.int x)) h) ∧
    (∀ (v1 v2 : Value) (x : Nat) (st : List Value) (h : mr_h) (Q : Option Value → mr_h → Prop), mr_wp 66 26 [.ref x, v1, v2] st h Q = mr_wp 66 27 [.ref x, v1, v2] (.ref x :: st) h Q) ∧
    (∀ (v0 v1 v2 : Value) (a : Nat) (st : List Value) (h : mr_h) (Q : Option Value → mr_h → Prop), mr_wp 66 27 [v0, v1, v2] (.ref a :: st) h Q = mr_gf (h.1 a) 10 9 (fun v => mr_wp 66 30 [v0, v1, v2] (v :: st) h Q)) ∧
    (∀ (v1 v2 : Value) (x : Nat) (st : List Value) (h : mr_h) (Q : Option Value → mr_h → Prop), mr_wp 66 30 [.ref x, v1, v2] st h Q = mr_wp 66 31 [.ref x, v1, v2] (.ref x :: st) h Q) ∧
    (∀ (v0 v1 v2 : Value) (a : Nat) (st : List Value) (h : mr_h) (Q : Option Value → mr_h → Prop), mr_wp 66 31 [v0, v1, v2] (.ref a :: st) h Q = mr_gf (h.1 a) 10 0 (fun v => mr_wp 66 34 [v0, v1, v2] (v :: st) h Q)) ∧
    (∀ (v0 v1 v2 : Value) (a0 : Nat) (o : Nat) (h : mr_h) (Q : Option Value → mr_h → Prop), mr_wp 66 34 [v0, v1, v2] [.ref a0, .ref o] h Q = mr_rc (h.1 o) 4 (mr_run 63 [.ref o, .ref a0] h (fun v h' => mr_wp 66 37 [v0, v1, v2] (v.toList ++ []) h' Q))) ∧
    (∀ (v1 v2 : Value) (x : Nat) (st : List Value) (h : mr_h) (Q : Option Value → mr_h → Prop), mr_wp 66 37 [.ref x, v1, v2] st h Q = mr_wp 66 38 [.ref x, v1, v2] (.ref x :: st) h Q) ∧
    (∀ (v0 v1 v2 : Value) (a : Nat) (st : List Value) (h : mr_h) (Q : Option Value → mr_h → Prop), mr_wp 66 38 [v0, v1, v2] (.ref a :: st) h Q = mr_gf (h.1 a) 10 0 (fun v => mr_wp 66 41 [v0, v1, v2] (v :: st) h Q)) ∧
    (∀ (v0 v2 : Value) (x : Int32) (st : List Value) (h : mr_h) (Q : Option Value → mr_h → Prop), mr_wp 66 41 [v0, .int x, v2] st h Q = mr_wp 66 42 [v0, .int x, v2] (.int x :: st) h Q) ∧
    (∀ (v0 v1 : Value) (x : Int32) (st : List Value) (h : mr_h) (Q : Option Value → mr_h → Prop), mr_wp 66 42 [v0, v1, .int x] st h Q = mr_wp 66 43 [v0, v1, .int x] (.int x :: st) h Q) ∧
    (∀ (v0 v1 v2 : Value) (a0 : Int32) (a1 : Int32) (o : Nat) (h : mr_h) (Q : Option Value → mr_h → Prop), mr_wp 66 43 [v0, v1, v2] [.int a1, .int a0, .ref o] h Q = mr_rc (h.1 o) 3 (mr_run 67 [.ref o, .int a0, .int a1] h (fun v h' => mr_wp 66 46 [v0, v1, v2] (v.toList ++ []) h' Q))) ∧
    (∀ (v1 v2 : Value) (x : Nat) (st : List Value) (h : mr_h) (Q : Option Value → mr_h → Prop), mr_wp 66 46 [.ref x, v1, v2] st h Q = mr_wp 66 47 [.ref x, v1, v2] (.ref x :: st) h Q) ∧
    (∀ (v0 v1 v2 : Value) (o : Nat) (h : mr_h) (Q : Option Value → mr_h → Prop), mr_wp 66 47 [v0, v1, v2] [.ref o] h Q = mr_rc (h.1 o) 10 (mr_run 65 [.ref o] h (fun v h' => mr_wp 66 50 [v0, v1, v2] (v.toList ++ []) h' Q))) ∧
    (∀ (v0 v1 v2 : Value) (x : Int32) (h : mr_h) (Q : Option Value → mr_h → Prop), mr_wp 66 50 [v0, v1, v2] [.int x] h Q = Q (some (.int x)) h) :=
  ⟨fun v1 v2 x st h Q => gx_one (i := .aload_n 0) (len := 1) (by decide +kernel) rfl,
   fun v0 v2 x st h Q => gx_one (i := .iload_n 1) (len := 1) (by decide +kernel) rfl,
   fun v0 v1 x st h Q => gx_one (i := .iload_n 2) (len := 1) (by decide +kernel) rfl,
   fun v0 v1 v2 a0 a1 o h Q => gx_virt (x := 134) (n := 2) (by decide +kernel) (by decide +kernel) rfl (Or.inl (Nat.le_of_ble_eq_true rfl)) (by show _ ≤ mr_mxl 46; rw [show mr_mxl 46 = 3 from by decide +kernel]; exact Nat.le_of_ble_eq_true rfl) (by decide +kernel),
   fun v0 v1 v2 x st h Q => gx_br (i := .ifCond .ne 5) (len := 3) (c := .ne) (by decide +kernel) rfl rfl,
   fun v0 v1 v2 st h Q => gx_one (i := .iconst (-1)) (len := 1) (by decide +kernel) rfl,
   fun v0 v1 v2 x h Q => gx_ret (i := .ireturn) (len := 1) (by decide +kernel) rfl rfl (by simp only [mr_rt, if_pos]; rw [if_pos (Or.inl (by decide +kernel))]),
   fun v1 v2 x st h Q => gx_one (i := .aload_n 0) (len := 1) (by decide +kernel) rfl,
   fun v0 v1 v2 a st h Q => gx_get (x := 10) (by decide +kernel) (by decide +kernel),
   fun v0 v2 x st h Q => gx_one (i := .iload_n 1) (len := 1) (by decide +kernel) rfl,
   fun v0 v1 x st h Q => gx_one (i := .iload_n 2) (len := 1) (by decide +kernel) rfl,
   fun v0 v1 v2 a0 a1 o h Q => gx_virt (x := 138) (n := 2) (by decide +kernel) (by decide +kernel) rfl (Or.inl (Nat.le_of_ble_eq_true rfl)) (by show _ ≤ mr_mxl 38; rw [show mr_mxl 38 = 3 from by decide +kernel]; exact Nat.le_of_ble_eq_true rfl) (by decide +kernel),
   fun v0 v1 v2 x st h Q => gx_br (i := .ifCond .ne 6) (len := 3) (c := .ne) (by decide +kernel) rfl rfl,
   fun v0 v1 v2 st h Q => gx_one (i := .bipush (-2)) (len := 2) (by decide +kernel) rfl,
   fun v0 v1 v2 x h Q => gx_ret (i := .ireturn) (len := 1) (by decide +kernel) rfl rfl (by simp only [mr_rt, if_pos]; rw [if_pos (Or.inl (by decide +kernel))]),
   fun v1 v2 x st h Q => gx_one (i := .aload_n 0) (len := 1) (by decide +kernel) rfl,
   fun v0 v1 v2 a st h Q => gx_get (x := 71) (by decide +kernel) (by decide +kernel),
   fun v1 v2 x st h Q => gx_one (i := .aload_n 0) (len := 1) (by decide +kernel) rfl,
   fun v0 v1 v2 a st h Q => gx_get (x := 10) (by decide +kernel) (by decide +kernel),
   fun v0 v1 v2 a0 o h Q => gx_virt (x := 163) (n := 1) (by decide +kernel) (by decide +kernel) rfl (Or.inl (Nat.le_of_ble_eq_true rfl)) (by show _ ≤ mr_mxl 63; rw [show mr_mxl 63 = 2 from by decide +kernel]; exact Nat.le_of_ble_eq_true rfl) (by decide +kernel),
   fun v1 v2 x st h Q => gx_one (i := .aload_n 0) (len := 1) (by decide +kernel) rfl,
   fun v0 v1 v2 a st h Q => gx_get (x := 10) (by decide +kernel) (by decide +kernel),
   fun v0 v2 x st h Q => gx_one (i := .iload_n 1) (len := 1) (by decide +kernel) rfl,
   fun v0 v1 x st h Q => gx_one (i := .iload_n 2) (len := 1) (by decide +kernel) rfl,
   fun v0 v1 v2 a0 a1 o h Q => gx_virt (x := 173) (n := 2) (by decide +kernel) (by decide +kernel) rfl (Or.inl (Nat.le_of_ble_eq_true rfl)) (by show _ ≤ mr_mxl 67; rw [show mr_mxl 67 = 3 from by decide +kernel]; exact Nat.le_of_ble_eq_true rfl) (by decide +kernel),
   fun v1 v2 x st h Q => gx_one (i := .aload_n 0) (len := 1) (by decide +kernel) rfl,
   fun v0 v1 v2 o h Q => gx_virt (x := 170) (n := 0) (by decide +kernel) (by decide +kernel) rfl (Or.inl (Nat.le_of_ble_eq_true rfl)) (by show _ ≤ mr_mxl 65; rw [show mr_mxl 65 = 1 from by decide +kernel]; exact Nat.le_of_ble_eq_true rfl) (by decide +kernel),
   fun v0 v1 v2 x h Q => gx_ret (i := .ireturn) (len := 1) (by decide +kernel) rfl rfl (by simp only [mr_rt, if_pos]; rw [if_pos (Or.inl (by decide +kernel))])⟩
theorem S_ne_unlink : (∀ (v1 v2 : Value) (x : Nat) (st : List Value) (h : mr_h) (Q : Option Value → mr_h → Prop), mr_wp 67 0 [.ref x, v1, v2] st h Q = mr_wp 67 1 [.ref x, v1, v2] (.ref x :: st) h Q) ∧
    (∀ (v0 v1 v2 : Value) (a : Nat) (st : List Value) (h : mr_h) (Q : Option Value → mr_h → Prop), mr_wp 67 1 [v0, v1, v2] (.ref a :: st) h Q = mr_gf (h.1 a) 3 1 (fun v => mr_wp 67 4 [v0, v1, v2] (v :: st) h Q)) ∧
    (∀ (v0 v2 : Value) (x : Int32) (st : List Value) (h : mr_h) (Q : Option Value → mr_h → Prop), mr_wp 67 4 [v0, .int x, v2] st h Q = mr_wp 67 5 [v0, .int x, v2] (.int x :: st) h Q) ∧
    (∀ (v0 v1 v2 : Value) (x : Int32) (y : Nat) (st : List Value) (h : mr_h) (Q : Option Value → mr_h → Prop), mr_wp 67 5 [v0, v1, v2] (.int x :: .ref y :: st) h Q = mr_wp 67 6 [v0, v1, v2] (.int x :: .ref y :: .int x :: .ref y :: st) h Q) ∧
    (∀ (v0 v1 v2 : Value) (a : Nat) (x : Int32) (st : List Value) (h : mr_h) (Q : Option Value → mr_h → Prop), mr_wp 67 6 [v0, v1, v2] (.int x :: .ref a :: st) h Q = mr_ai (h.1 a) x (fun v => mr_wp 67 7 [v0, v1, v2] (.int v :: st) h Q)) ∧
    (∀ (v0 v1 : Value) (x : Int32) (st : List Value) (h : mr_h) (Q : Option Value → mr_h → Prop), mr_wp 67 7 [v0, v1, .int x] st h Q = mr_wp 67 8 [v0, v1, .int x] (.int x :: st) h Q) ∧
    (∀ (v0 v1 v2 : Value) (a0 : Int32) (r0 : Value) (r1 : Value) (r2 : Value) (h : mr_h) (Q : Option Value → mr_h → Prop), mr_wp 67 8 [v0, v1, v2] [.int a0, r0, r1, r2] h Q = mr_run 16 [.int a0] h (fun v h' => mr_wp 67 11 [v0, v1, v2] (v.toList ++ [r0, r1, r2]) h' Q)) ∧
    (∀ (v0 v1 v2 : Value) (st : List Value) (h : mr_h) (Q : Option Value → mr_h → Prop), mr_wp 67 11 [v0, v1, v2] st h Q = mr_wp 67 12 [v0, v1, v2] (.int (-1) :: st) h Q) ∧
    (∀ (v0 v1 v2 : Value) (x : Int32) (y : Int32) (st : List Value) (h : mr_h) (Q : Option Value → mr_h → Prop), mr_wp 67 12 [v0, v1, v2] (.int y :: .int x :: st) h Q = mr_wp 67 13 [v0, v1, v2] (.int (x ^^^ y) :: st) h Q) ∧
    (∀ (v0 v1 v2 : Value) (x : Int32) (y : Int32) (st : List Value) (h : mr_h) (Q : Option Value → mr_h → Prop), mr_wp 67 13 [v0, v1, v2] (.int y :: .int x :: st) h Q = mr_wp 67 14 [v0, v1, v2] (.int (x &&& y) :: st) h Q) ∧
    (∀ (v0 v1 v2 : Value) (a : Nat) (x : Int32) (y : Int32) (st : List Value) (h : mr_h) (Q : Option Value → mr_h → Prop), mr_wp 67 14 [v0, v1, v2] (.int y :: .int x :: .ref a :: st) h Q = mr_si (h.1 a) x y (fun c => mr_wp 67 15 [v0, v1, v2] st (mr_up h a c) Q)) ∧
    (∀ (v0 v1 v2 : Value) (h : mr_h) (Q : Option Value → mr_h → Prop), mr_wp 67 15 [v0, v1, v2] [] h Q = Q none h) :=
  ⟨fun v1 v2 x st h Q => gx_one (i := .aload_n 0) (len := 1) (by decide +kernel) rfl,
   fun v0 v1 v2 a st h Q => gx_get (x := 9) (by decide +kernel) (by decide +kernel),
   fun v0 v2 x st h Q => gx_one (i := .iload_n 1) (len := 1) (by decide +kernel) rfl,
   fun v0 v1 v2 x y st h Q => gx_one (i := .dup2) (len := 1) (by decide +kernel) rfl,
   fun v0 v1 v2 a x st h Q => gx_iald (by decide +kernel),
   fun v0 v1 x st h Q => gx_one (i := .iload_n 2) (len := 1) (by decide +kernel) rfl,
   fun v0 v1 v2 a0 r0 r1 r2 h Q => gx_stat (x := 35) (t := 16) (n := 1) (by decide +kernel) (by decide +kernel) (by decide) (by decide +kernel) rfl (Or.inl (Nat.le_of_ble_eq_true rfl)) (by show _ ≤ mr_mxl 16; rw [show mr_mxl 16 = 1 from by decide +kernel]; exact Nat.le_of_ble_eq_true rfl),
   fun v0 v1 v2 st h Q => gx_one (i := .iconst (-1)) (len := 1) (by decide +kernel) rfl,
   fun v0 v1 v2 x y st h Q => gx_one (i := .ixor) (len := 1) (by decide +kernel) rfl,
   fun v0 v1 v2 x y st h Q => gx_one (i := .iand) (len := 1) (by decide +kernel) rfl,
   fun v0 v1 v2 a x y st h Q => gx_iast (by decide +kernel),
   fun v0 v1 v2 h Q => gx_ret (i := .return_) (len := 1) (by decide +kernel) rfl rfl (by simp only [mr_rt, if_pos]; rw [if_pos (by decide +kernel)])⟩
theorem S_rl_ranks : (∀ (x : Nat) (st : List Value) (h : mr_h) (Q : Option Value → mr_h → Prop), mr_wp 68 0 [.ref x] st h Q = mr_wp 68 1 [.ref x] (.ref x :: st) h Q) ∧
    (∀ (v0 : Value) (a : Nat) (st : List Value) (h : mr_h) (Q : Option Value → mr_h → Prop), mr_wp 68 1 [v0] (.ref a :: st) h Q = mr_gf (h.1 a) 10 9 (fun v => mr_wp 68 4 [v0] (v :: st) h Q)) ∧
    (∀ (x : Nat) (st : List Value) (h : mr_h) (Q : Option Value → mr_h → Prop), mr_wp 68 4 [.ref x] st h Q = mr_wp 68 5 [.ref x] (.ref x :: st) h Q) ∧
    (∀ (v0 : Value) (a : Nat) (st : List Value) (h : mr_h) (Q : Option Value → mr_h → Prop), mr_wp 68 5 [v0] (.ref a :: st) h Q = mr_gf (h.1 a) 10 0 (fun v => mr_wp 68 8 [v0] (v :: st) h Q)) ∧
    (∀ (v0 : Value) (a0 : Nat) (o : Nat) (h : mr_h) (Q : Option Value → mr_h → Prop), mr_wp 68 8 [v0] [.ref a0, .ref o] h Q = mr_rc (h.1 o) 4 (mr_run 63 [.ref o, .ref a0] h (fun v h' => mr_wp 68 11 [v0] (v.toList ++ []) h' Q))) ∧
    (∀ (x : Nat) (st : List Value) (h : mr_h) (Q : Option Value → mr_h → Prop), mr_wp 68 11 [.ref x] st h Q = mr_wp 68 12 [.ref x] (.ref x :: st) h Q) ∧
    (∀ (v0 : Value) (a : Nat) (st : List Value) (h : mr_h) (Q : Option Value → mr_h → Prop), mr_wp 68 12 [v0] (.ref a :: st) h Q = mr_gf (h.1 a) 10 4 (fun v => mr_wp 68 15 [v0] (v :: st) h Q)) ∧
    (∀ (x : Nat) (st : List Value) (h : mr_h) (Q : Option Value → mr_h → Prop), mr_wp 68 15 [.ref x] st h Q = mr_wp 68 16 [.ref x] (.ref x :: st) h Q) ∧
    (∀ (v0 : Value) (a : Nat) (st : List Value) (h : mr_h) (Q : Option Value → mr_h → Prop), mr_wp 68 16 [v0] (.ref a :: st) h Q = mr_gf (h.1 a) 10 0 (fun v => mr_wp 68 19 [v0] (v :: st) h Q)) ∧
    (∀ (v0 : Value) (a0 : Nat) (o : Nat) (h : mr_h) (Q : Option Value → mr_h → Prop), mr_wp 68 19 [v0] [.ref a0, .ref o] h Q = mr_rc (h.1 o) 5 (mr_run 69 [.ref o, .ref a0] h (fun v h' => mr_wp 68 22 [v0] (v.toList ++ []) h' Q))) ∧
    (∀ (x : Nat) (st : List Value) (h : mr_h) (Q : Option Value → mr_h → Prop), mr_wp 68 22 [.ref x] st h Q = mr_wp 68 23 [.ref x] (.ref x :: st) h Q) ∧
    (∀ (v0 : Value) (o : Nat) (h : mr_h) (Q : Option Value → mr_h → Prop), mr_wp 68 23 [v0] [.ref o] h Q = mr_rc (h.1 o) 10 (mr_run 65 [.ref o] h (fun v h' => mr_wp 68 26 [v0] (v.toList ++ []) h' Q))) ∧
    (∀ (v0 : Value) (x : Int32) (h : mr_h) (Q : Option Value → mr_h → Prop), mr_wp 68 26 [v0] [.int x] h Q = Q (some (.int x)) h) :=
  ⟨fun x st h Q => gx_one (i := .aload_n 0) (len := 1) (by decide +kernel) rfl,
   fun v0 a st h Q => gx_get (x := 71) (by decide +kernel) (by decide +kernel),
   fun x st h Q => gx_one (i := .aload_n 0) (len := 1) (by decide +kernel) rfl,
   fun v0 a st h Q => gx_get (x := 10) (by decide +kernel) (by decide +kernel),
   fun v0 a0 o h Q => gx_virt (x := 163) (n := 1) (by decide +kernel) (by decide +kernel) rfl (Or.inl (Nat.le_of_ble_eq_true rfl)) (by show _ ≤ mr_mxl 63; rw [show mr_mxl 63 = 2 from by decide +kernel]; exact Nat.le_of_ble_eq_true rfl) (by decide +kernel),
   fun x st h Q => gx_one (i := .aload_n 0) (len := 1) (by decide +kernel) rfl,
   fun v0 a st h Q => gx_get (x := 36) (by decide +kernel) (by decide +kernel),
   fun x st h Q => gx_one (i := .aload_n 0) (len := 1) (by decide +kernel) rfl,
   fun v0 a st h Q => gx_get (x := 10) (by decide +kernel) (by decide +kernel),
   fun v0 a0 o h Q => gx_virt (x := 176) (n := 1) (by decide +kernel) (by decide +kernel) rfl (Or.inl (Nat.le_of_ble_eq_true rfl)) (by show _ ≤ mr_mxl 69; rw [show mr_mxl 69 = 3 from by decide +kernel]; exact Nat.le_of_ble_eq_true rfl) (by decide +kernel),
   fun x st h Q => gx_one (i := .aload_n 0) (len := 1) (by decide +kernel) rfl,
   fun v0 o h Q => gx_virt (x := 170) (n := 0) (by decide +kernel) (by decide +kernel) rfl (Or.inl (Nat.le_of_ble_eq_true rfl)) (by show _ ≤ mr_mxl 65; rw [show mr_mxl 65 = 1 from by decide +kernel]; exact Nat.le_of_ble_eq_true rfl) (by decide +kernel),
   fun v0 x h Q => gx_ret (i := .ireturn) (len := 1) (by decide +kernel) rfl rfl (by simp only [mr_rt, if_pos]; rw [if_pos (Or.inl (by decide +kernel))])⟩
theorem s_ra_rank_2 (v0 v1 : Value) (x : Int32) (st : List Value) (h : mr_h) (Q : Option Value → mr_h → Prop) : mr_wp 69 2 [v0, v1, .int x] st h Q = mr_wp 69 3 [v0, v1, .int x] (.int x :: st) h Q := gx_one (i := .iload_n 2) (len := 1) (by decide +kernel) rfl
theorem s_ra_rank_43 (v0 v1 : Value) (x : Int32) (st : List Value) (h : mr_h) (Q : Option Value → mr_h → Prop) : mr_wp 69 43 [v0, v1, .int x] st h Q = mr_wp 69 44 [v0, v1, .int x] (.int x :: st) h Q := gx_one (i := .iload_n 2) (len := 1) (by decide +kernel) rfl
theorem S_ra_rank_0 : (∀ (v0 v1 v2 : Value) (st : List Value) (h : mr_h) (Q : Option Value → mr_h → Prop), mr_wp 69 0 [v0, v1, v2] st h Q = mr_wp 69 1 [v0, v1, v2] (.int (0) :: st) h Q) ∧
    (∀ (v0 v2 : Value) (w1 : Nat) (x : Int32) (st : List Value) (h : mr_h) (Q : Option Value → mr_h → Prop), mr_wp 69 1 [v0, .ref w1, v2] (.int x :: st) h Q = mr_wp 69 2 [v0, .ref w1, .int x] st h Q) ∧
    (∀ (v0 v2 : Value) (x : Nat) (st : List Value) (h : mr_h) (Q : Option Value → mr_h → Prop), mr_wp 69 3 [v0, .ref x, v2] st h Q = mr_wp 69 4 [v0, .ref x, v2] (.ref x :: st) h Q) ∧
    (∀ (v0 v1 v2 : Value) (a : Nat) (st : List Value) (h : mr_h) (Q : Option Value → mr_h → Prop), mr_wp 69 4 [v0, v1, v2] (.ref a :: st) h Q = mr_gf (h.1 a) 3 0 (fun v => mr_wp 69 7 [v0, v1, v2] (v :: st) h Q)) ∧
    (∀ (v0 v1 v2 : Value) (x : Int32) (y : Int32) (st : List Value) (h : mr_h) (Q : Option Value → mr_h → Prop), mr_wp 69 7 [v0, v1, v2] (.int y :: .int x :: st) h Q = if y ≤ x then mr_wp 69 41 [v0, v1, v2] st h Q else mr_wp 69 10 [v0, v1, v2] st h Q) ∧
    (∀ (v1 v2 : Value) (x : Nat) (st : List Value) (h : mr_h) (Q : Option Value → mr_h → Prop), mr_wp 69 10 [.ref x, v1, v2] st h Q = mr_wp 69 11 [.ref x, v1, v2] (.ref x :: st) h Q) ∧
    (∀ (v0 v1 v2 : Value) (a : Nat) (st : List Value) (h : mr_h) (Q : Option Value → mr_h → Prop), mr_wp 69 11 [v0, v1, v2] (.ref a :: st) h Q = mr_gf (h.1 a) 5 0 (fun v => mr_wp 69 14 [v0, v1, v2] (v :: st) h Q)) ∧
    (∀ (v0 v1 : Value) (x : Int32) (st : List Value) (h : mr_h) (Q : Option Value → mr_h → Prop), mr_wp 69 14 [v0, v1, .int x] st h Q = mr_wp 69 15 [v0, v1, .int x] (.int x :: st) h Q) ∧
    (∀ (v0 v2 : Value) (x : Nat) (st : List Value) (h : mr_h) (Q : Option Value → mr_h → Prop), mr_wp 69 15 [v0, .ref x, v2] st h Q = mr_wp 69 16 [v0, .ref x, v2] (.ref x :: st) h Q) ∧
    (∀ (v0 v1 v2 : Value) (a : Nat) (st : List Value) (h : mr_h) (Q : Option Value → mr_h → Prop), mr_wp 69 16 [v0, v1, v2] (.ref a :: st) h Q = mr_gf (h.1 a) 3 1 (fun v => mr_wp 69 19 [v0, v1, v2] (v :: st) h Q)) ∧
    (∀ (v0 v1 : Value) (x : Int32) (st : List Value) (h : mr_h) (Q : Option Value → mr_h → Prop), mr_wp 69 19 [v0, v1, .int x] st h Q = mr_wp 69 20 [v0, v1, .int x] (.int x :: st) h Q) ∧
    (∀ (v0 v1 v2 : Value) (a : Nat) (x : Int32) (st : List Value) (h : mr_h) (Q : Option Value → mr_h → Prop), mr_wp 69 20 [v0, v1, v2] (.int x :: .ref a :: st) h Q = mr_ai (h.1 a) x (fun v => mr_wp 69 21 [v0, v1, v2] (.int v :: st) h Q)) ∧
    (∀ (v0 v1 v2 : Value) (a0 : Int32) (r0 : Value) (r1 : Value) (h : mr_h) (Q : Option Value → mr_h → Prop), mr_wp 69 21 [v0, v1, v2] [.int a0, r0, r1] h Q = mr_run 50 [.int a0] h (fun v h' => mr_wp 69 24 [v0, v1, v2] (v.toList ++ [r0, r1]) h' Q)) ∧
    (∀ (v0 v1 v2 : Value) (st : List Value) (h : mr_h) (Q : Option Value → mr_h → Prop), mr_wp 69 24 [v0, v1, v2] st h Q = mr_wp 69 25 [v0, v1, v2] (.int (1) :: st) h Q) ∧
    (∀ (v0 v1 v2 : Value) (x : Int32) (y : Int32) (st : List Value) (h : mr_h) (Q : Option Value → mr_h → Prop), mr_wp 69 25 [v0, v1, v2] (.int y :: .int x :: st) h Q = mr_wp 69 26 [v0, v1, v2] (.int (x + y) :: st) h Q) ∧
    (∀ (v0 v2 : Value) (x : Nat) (st : List Value) (h : mr_h) (Q : Option Value → mr_h → Prop), mr_wp 69 26 [v0, .ref x, v2] st h Q = mr_wp 69 27 [v0, .ref x, v2] (.ref x :: st) h Q) ∧
    (∀ (v0 v1 : Value) (x : Int32) (st : List Value) (h : mr_h) (Q : Option Value → mr_h → Prop), mr_wp 69 27 [v0, v1, .int x] st h Q = mr_wp 69 28 [v0, v1, .int x] (.int x :: st) h Q) ∧
    (∀ (v0 v1 v2 : Value) (a0 : Int32) (o : Nat) (r0 : Value) (r1 : Value) (r2 : Value) (h : mr_h) (Q : Option Value → mr_h → Prop), mr_wp 69 28 [v0, v1, v2] [.int a0, .ref o, r0, r1, r2] h Q = mr_rc (h.1 o) 3 (mr_run 70 [.ref o, .int a0] h (fun v h' => mr_wp 69 31 [v0, v1, v2] (v.toList ++ [r0, r1, r2]) h' Q))) ∧
    (∀ (v0 v1 v2 : Value) (st : List Value) (h : mr_h) (Q : Option Value → mr_h → Prop), mr_wp 69 31 [v0, v1, v2] st h Q = mr_wp 69 32 [v0, v1, v2] (.int (1) :: st) h Q) ∧
    (∀ (v0 v1 v2 : Value) (x : Int32) (y : Int32) (st : List Value) (h : mr_h) (Q : Option Value → mr_h → Prop), mr_wp 69 32 [v0, v1, v2] (.int y :: .int x :: st) h Q = mr_wp 69 33 [v0, v1, v2] (.int (x + y) :: st) h Q) ∧
    (∀ (v0 v1 v2 : Value) (x : Int32) (y : Int32) (st : List Value) (h : mr_h) (Q : Option Value → mr_h → Prop), mr_wp 69 33 [v0, v1, v2] (.int y :: .int x :: st) h Q = mr_wp 69 34 [v0, v1, v2] (.int (x * y) :: st) h Q) ∧
    (∀ (v0 v1 v2 : Value) (a : Nat) (x : Int32) (y : Int32) (st : List Value) (h : mr_h) (Q : Option Value → mr_h → Prop), mr_wp 69 34 [v0, v1, v2] (.int y :: .int x :: .ref a :: st) h Q = mr_si (h.1 a) x y (fun c => mr_wp 69 35 [v0, v1, v2] st (mr_up h a c) Q)) ∧
    (∀ (v0 : Value) (x : Int32) (w1 : Nat) (st : List Value) (h : mr_h) (Q : Option Value → mr_h → Prop), mr_wp 69 35 [v0, .ref w1, .int x] st h Q = mr_wp 69 38 [v0, .ref w1, .int (x + (1))] st h Q) ∧
    (∀ (v0 v1 v2 : Value) (st : List Value) (h : mr_h) (Q : Option Value → mr_h → Prop), mr_wp 69 38 [v0, v1, v2] st h Q = mr_wp 69 2 [v0, v1, v2] st h Q) ∧
    (∀ (v0 v1 v2 : Value) (st : List Value) (h : mr_h) (Q : Option Value → mr_h → Prop), mr_wp 69 41 [v0, v1, v2] st h Q = mr_wp 69 42 [v0, v1, v2] (.int (0) :: st) h Q) ∧
    (∀ (v0 v2 : Value) (w1 : Nat) (x : Int32) (st : List Value) (h : mr_h) (Q : Option Value → mr_h → Prop), mr_wp 69 42 [v0, .ref w1, v2] (.int x :: st) h Q = mr_wp 69 43 [v0, .ref w1, .int x] st h Q) ∧
    (∀ (v0 v2 : Value) (x : Nat) (st : List Value) (h : mr_h) (Q : Option Value → mr_h → Prop), mr_wp 69 44 [v0, .ref x, v2] st h Q = mr_wp 69 45 [v0, .ref x, v2] (.ref x :: st) h Q) ∧
    (∀ (v0 v1 v2 : Value) (a : Nat) (st : List Value) (h : mr_h) (Q : Option Value → mr_h → Prop), mr_wp 69 45 [v0, v1, v2] (.ref a :: st) h Q = mr_gf (h.1 a) 3 0 (fun v => mr_wp 69 48 [v0, v1, v2] (v :: st) h Q)) ∧
    (∀ (v0 v1 v2 : Value) (x : Int32) (y : Int32) (st : List Value) (h : mr_h) (Q : Option Value → mr_h → Prop), mr_wp 69 48 [v0, v1, v2] (.int y :: .int x :: st) h Q = if y ≤ x then mr_wp 69 72 [v0, v1, v2] st h Q else mr_wp 69 51 [v0, v1, v2] st h Q) ∧
    (∀ (v0 v2 : Value) (x : Nat) (st : List Value) (h : mr_h) (Q : Option Value → mr_h → Prop), mr_wp 69 51 [v0, .ref x, v2] st h Q = mr_wp 69 52 [v0, .ref x, v2] (.ref x :: st) h Q) ∧
    (∀ (v0 v1 v2 : Value) (a : Nat) (st : List Value) (h : mr_h) (Q : Option Value → mr_h → Prop), mr_wp 69 52 [v0, v1, v2] (.ref a :: st) h Q = mr_gf (h.1 a) 3 2 (fun v => mr_wp 69 55 [v0, v1, v2] (v :: st) h Q)) ∧
    (∀ (v0 v1 : Value) (x : Int32) (st : List Value) (h : mr_h) (Q : Option Value → mr_h → Prop), mr_wp 69 55 [v0, v1, .int x] st h Q = mr_wp 69 56 [v0, v1, .int x] (.int x :: st) h Q) ∧
    (∀ (v1 v2 : Value) (x : Nat) (st : List Value) (h : mr_h) (Q : Option Value → mr_h → Prop), mr_wp 69 56 [.ref x, v1, v2] st h Q = mr_wp 69 57 [.ref x, v1, v2] (.ref x :: st) h Q) ∧
    (∀ (v0 v1 : Value) (x : Int32) (st : List Value) (h : mr_h) (Q : Option Value → mr_h → Prop), mr_wp 69 57 [v0, v1, .int x] st h Q = mr_wp 69 58 [v0, v1, .int x] (.int x :: st) h Q) ∧
    (∀ (v0 v2 : Value) (x : Nat) (st : List Value) (h : mr_h) (Q : Option Value → mr_h → Prop), mr_wp 69 58 [v0, .ref x, v2] st h Q = mr_wp 69 59 [v0, .ref x, v2] (.ref x :: st) h Q) ∧
    (∀ (v0 v1 v2 : Value) (a : Nat) (st : List Value) (h : mr_h) (Q : Option Value → mr_h → Prop), mr_wp 69 59 [v0, v1, v2] (.ref a :: st) h Q = mr_gf (h.1 a) 3 0 (fun v => mr_wp 69 62 [v0, v1, v2] (v :: st) h Q)) ∧
    (∀ (v0 v1 v2 : Value) (a0 : Int32) (a1 : Int32) (o : Nat) (r0 : Value) (r1 : Value) (h : mr_h) (Q : Option Value → mr_h → Prop), mr_wp 69 62 [v0, v1, v2] [.int a1, .int a0, .ref o, r0, r1] h Q = mr_rc (h.1 o) 5 (mr_run 71 [.ref o, .int a0, .int a1] h (fun v h' => mr_wp 69 65 [v0, v1, v2] (v.toList ++ [r0, r1]) h' Q))) ∧
    (∀ (v0 v1 v2 : Value) (a : Nat) (x : Int32) (y : Int32) (st : List Value) (h : mr_h) (Q : Option Value → mr_h → Prop), mr_wp 69 65 [v0, v1, v2] (.int y :: .int x :: .ref a :: st) h Q = mr_si (h.1 a) x y (fun c => mr_wp 69 66 [v0, v1, v2] st (mr_up h a c) Q)) ∧
    (∀ (v0 : Value) (x : Int32) (w1 : Nat) (st : List Value) (h : mr_h) (Q : Option Value → mr_h → Prop), mr_wp 69 66 [v0, .ref w1, .int x] st h Q = mr_wp 69 69 [v0, .ref w1, .int (x + (1))] st h Q) ∧
    (∀ (v0 v1 v2 : Value) (st : List Value) (h : mr_h) (Q : Option Value → mr_h → Prop), mr_wp 69 69 [v0, v1, v2] st h Q = mr_wp 69 43 [v0, v1, v2] st h Q) :=
  ⟨fun v0 v1 v2 st h Q => gx_one (i := .iconst 0) (len := 1) (by decide +kernel) rfl,
   fun v0 v2 w1 x st h Q => gx_one (i := .istore_n 2) (len := 1) (by decide +kernel) rfl,
   fun v0 v2 x st h Q => gx_one (i := .aload_n 1) (len := 1) (by decide +kernel) rfl,
   fun v0 v1 v2 a st h Q => gx_get (x := 15) (by decide +kernel) (by decide +kernel),
   fun v0 v1 v2 x y st h Q => gx_br (i := .if_icmp .ge 34) (len := 3) (c := .ge) (by decide +kernel) rfl rfl,
   fun v1 v2 x st h Q => gx_one (i := .aload_n 0) (len := 1) (by decide +kernel) rfl,
   fun v0 v1 v2 a st h Q => gx_get (x := 9) (by decide +kernel) (by decide +kernel),
   fun v0 v1 x st h Q => gx_one (i := .iload_n 2) (len := 1) (by decide +kernel) rfl,
   fun v0 v2 x st h Q => gx_one (i := .aload_n 1) (len := 1) (by decide +kernel) rfl,
   fun v0 v1 v2 a st h Q => gx_get (x := 21) (by decide +kernel) (by decide +kernel),
   fun v0 v1 x st h Q => gx_one (i := .iload_n 2) (len := 1) (by decide +kernel) rfl,
   fun v0 v1 v2 a x st h Q => gx_iald (by decide +kernel),
   fun v0 v1 v2 a0 r0 r1 h Q => gx_stat (x := 24) (t := 50) (n := 1) (by decide +kernel) (by decide +kernel) (by decide) (by decide +kernel) rfl (Or.inl (Nat.le_of_ble_eq_true rfl)) (by show _ ≤ mr_mxl 50; rw [show mr_mxl 50 = 1 from by decide +kernel]; exact Nat.le_of_ble_eq_true rfl),
   fun v0 v1 v2 st h Q => gx_one (i := .iconst 1) (len := 1) (by decide +kernel) rfl,
   fun v0 v1 v2 x y st h Q => gx_one (i := .iadd) (len := 1) (by decide +kernel) rfl,
   fun v0 v2 x st h Q => gx_one (i := .aload_n 1) (len := 1) (by decide +kernel) rfl,
   fun v0 v1 x st h Q => gx_one (i := .iload_n 2) (len := 1) (by decide +kernel) rfl,
   fun v0 v1 v2 a0 o r0 r1 r2 h Q => gx_virt (x := 30) (n := 1) (by decide +kernel) (by decide +kernel) rfl (Or.inl (Nat.le_of_ble_eq_true rfl)) (by show _ ≤ mr_mxl 70; rw [show mr_mxl 70 = 4 from by decide +kernel]; exact Nat.le_of_ble_eq_true rfl) (by decide +kernel),
   fun v0 v1 v2 st h Q => gx_one (i := .iconst 1) (len := 1) (by decide +kernel) rfl,
   fun v0 v1 v2 x y st h Q => gx_one (i := .iadd) (len := 1) (by decide +kernel) rfl,
   fun v0 v1 v2 x y st h Q => gx_one (i := .imul) (len := 1) (by decide +kernel) rfl,
   fun v0 v1 v2 a x y st h Q => gx_iast (by decide +kernel),
   fun v0 x w1 st h Q => gx_one (i := .iinc 2 1) (len := 3) (by decide +kernel) rfl,
   fun v0 v1 v2 st h Q => gx_one (i := .goto (-36)) (len := 3) (by decide +kernel) rfl,
   fun v0 v1 v2 st h Q => gx_one (i := .iconst 0) (len := 1) (by decide +kernel) rfl,
   fun v0 v2 w1 x st h Q => gx_one (i := .istore_n 2) (len := 1) (by decide +kernel) rfl,
   fun v0 v2 x st h Q => gx_one (i := .aload_n 1) (len := 1) (by decide +kernel) rfl,
   fun v0 v1 v2 a st h Q => gx_get (x := 15) (by decide +kernel) (by decide +kernel),
   fun v0 v1 v2 x y st h Q => gx_br (i := .if_icmp .ge 24) (len := 3) (c := .ge) (by decide +kernel) rfl rfl,
   fun v0 v2 x st h Q => gx_one (i := .aload_n 1) (len := 1) (by decide +kernel) rfl,
   fun v0 v1 v2 a st h Q => gx_get (x := 33) (by decide +kernel) (by decide +kernel),
   fun v0 v1 x st h Q => gx_one (i := .iload_n 2) (len := 1) (by decide +kernel) rfl,
   fun v1 v2 x st h Q => gx_one (i := .aload_n 0) (len := 1) (by decide +kernel) rfl,
   fun v0 v1 x st h Q => gx_one (i := .iload_n 2) (len := 1) (by decide +kernel) rfl,
   fun v0 v2 x st h Q => gx_one (i := .aload_n 1) (len := 1) (by decide +kernel) rfl,
   fun v0 v1 v2 a st h Q => gx_get (x := 15) (by decide +kernel) (by decide +kernel),
   fun v0 v1 v2 a0 a1 o r0 r1 h Q => gx_virt (x := 36) (n := 2) (by decide +kernel) (by decide +kernel) rfl (Or.inl (Nat.le_of_ble_eq_true rfl)) (by show _ ≤ mr_mxl 71; rw [show mr_mxl 71 = 5 from by decide +kernel]; exact Nat.le_of_ble_eq_true rfl) (by decide +kernel),
   fun v0 v1 v2 a x y st h Q => gx_iast (by decide +kernel),
   fun v0 x w1 st h Q => gx_one (i := .iinc 2 1) (len := 3) (by decide +kernel) rfl,
   fun v0 v1 v2 st h Q => gx_one (i := .goto (-26)) (len := 3) (by decide +kernel) rfl⟩
theorem S_ra_rank_1 : (∀ (v0 v1 v2 : Value) (h : mr_h) (Q : Option Value → mr_h → Prop), mr_wp 69 72 [v0, v1, v2] [] h Q = Q none h) :=
  fun v0 v1 v2 h Q => gx_ret (i := .return_) (len := 1) (by decide +kernel) rfl rfl (by simp only [mr_rt, if_pos]; rw [if_pos (by decide +kernel)])

theorem s_ne_edgesInto_4 (v0 v1 v2 : Value) (x : Int32) (st : List Value) (h : mr_h) (Q : Option Value → mr_h → Prop) : mr_wp 70 4 [v0, v1, v2, .int x] st h Q = mr_wp 70 5 [v0, v1, v2, .int x] (.int x :: st) h Q := gx_one (i := .iload_n 3) (len := 1) (by decide +kernel) rfl
theorem S_ne_edgesInto : (∀ (v0 v1 v2 v3 : Value) (st : List Value) (h : mr_h) (Q : Option Value → mr_h → Prop), mr_wp 70 0 [v0, v1, v2, v3] st h Q = mr_wp 70 1 [v0, v1, v2, v3] (.int (0) :: st) h Q) ∧
    (∀ (v0 v2 v3 : Value) (w1 : Int32) (x : Int32) (st : List Value) (h : mr_h) (Q : Option Value → mr_h → Prop), mr_wp 70 1 [v0, .int w1, v2, v3] (.int x :: st) h Q = mr_wp 70 2 [v0, .int w1, .int x, v3] st h Q) ∧
    (∀ (v0 v1 v2 v3 : Value) (st : List Value) (h : mr_h) (Q : Option Value → mr_h → Prop), mr_wp 70 2 [v0, v1, v2, v3] st h Q = mr_wp 70 3 [v0, v1, v2, v3] (.int (0) :: st) h Q) ∧
    (∀ (v0 v1 v3 : Value) (w2 : Int32) (x : Int32) (st : List Value) (h : mr_h) (Q : Option Value → mr_h → Prop), mr_wp 70 3 [v0, v1, .int w2, v3] (.int x :: st) h Q = mr_wp 70 4 [v0, v1, .int w2, .int x] st h Q) ∧
    (∀ (v1 v2 v3 : Value) (x : Nat) (st : List Value) (h : mr_h) (Q : Option Value → mr_h → Prop), mr_wp 70 5 [.ref x, v1, v2, v3] st h Q = mr_wp 70 6 [.ref x, v1, v2, v3] (.ref x :: st) h Q) ∧
    (∀ (v0 v1 v2 v3 : Value) (a : Nat) (st : List Value) (h : mr_h) (Q : Option Value → mr_h → Prop), mr_wp 70 6 [v0, v1, v2, v3] (.ref a :: st) h Q = mr_gf (h.1 a) 3 0 (fun v => mr_wp 70 9 [v0, v1, v2, v3] (v :: st) h Q)) ∧
    (∀ (v0 v1 v2 v3 : Value) (x : Int32) (y : Int32) (st : List Value) (h : mr_h) (Q : Option Value → mr_h → Prop), mr_wp 70 9 [v0, v1, v2, v3] (.int y :: .int x :: st) h Q = if y ≤ x then mr_wp 70 30 [v0, v1, v2, v3] st h Q else mr_wp 70 12 [v0, v1, v2, v3] st h Q) ∧
    (∀ (v1 v2 v3 : Value) (x : Nat) (st : List Value) (h : mr_h) (Q : Option Value → mr_h → Prop), mr_wp 70 12 [.ref x, v1, v2, v3] st h Q = mr_wp 70 13 [.ref x, v1, v2, v3] (.ref x :: st) h Q) ∧
    (∀ (v0 v1 v2 : Value) (x : Int32) (st : List Value) (h : mr_h) (Q : Option Value → mr_h → Prop), mr_wp 70 13 [v0, v1, v2, .int x] st h Q = mr_wp 70 14 [v0, v1, v2, .int x] (.int x :: st) h Q) ∧
    (∀ (v0 v2 v3 : Value) (x : Int32) (st : List Value) (h : mr_h) (Q : Option Value → mr_h → Prop), mr_wp 70 14 [v0, .int x, v2, v3] st h Q = mr_wp 70 15 [v0, .int x, v2, v3] (.int x :: st) h Q) ∧
    (∀ (v0 v1 v2 v3 : Value) (a0 : Int32) (a1 : Int32) (o : Nat) (h : mr_h) (Q : Option Value → mr_h → Prop), mr_wp 70 15 [v0, v1, v2, v3] [.int a1, .int a0, .ref o] h Q = mr_rc (h.1 o) 3 (mr_run 38 [.ref o, .int a0, .int a1] h (fun v h' => mr_wp 70 18 [v0, v1, v2, v3] (v.toList ++ []) h' Q))) ∧
    (∀ (v0 v1 v2 v3 : Value) (x : Int32) (st : List Value) (h : mr_h) (Q : Option Value → mr_h → Prop), mr_wp 70 18 [v0, v1, v2, v3] (.int x :: st) h Q = if x = 0 then mr_wp 70 24 [v0, v1, v2, v3] st h Q else mr_wp 70 21 [v0, v1, v2, v3] st h Q) ∧
    (∀ (v0 v3 : Value) (x : Int32) (w1 : Int32) (st : List Value) (h : mr_h) (Q : Option Value → mr_h → Prop), mr_wp 70 21 [v0, .int w1, .int x, v3] st h Q = mr_wp 70 24 [v0, .int w1, .int (x + (1)), v3] st h Q) ∧
    (∀ (v0 v1 : Value) (x : Int32) (w2 : Int32) (st : List Value) (h : mr_h) (Q : Option Value → mr_h → Prop), mr_wp 70 24 [v0, v1, .int w2, .int x] st h Q = mr_wp 70 27 [v0, v1, .int w2, .int (x + (1))] st h Q) ∧
    (∀ (v0 v1 v2 v3 : Value) (st : List Value) (h : mr_h) (Q : Option Value → mr_h → Prop), mr_wp 70 27 [v0, v1, v2, v3] st h Q = mr_wp 70 4 [v0, v1, v2, v3] st h Q) ∧
    (∀ (v0 v1 v3 : Value) (x : Int32) (st : List Value) (h : mr_h) (Q : Option Value → mr_h → Prop), mr_wp 70 30 [v0, v1, .int x, v3] st h Q = mr_wp 70 31 [v0, v1, .int x, v3] (.int x :: st) h Q) ∧
    (∀ (v0 v1 v2 v3 : Value) (x : Int32) (h : mr_h) (Q : Option Value → mr_h → Prop), mr_wp 70 31 [v0, v1, v2, v3] [.int x] h Q = Q (some (.int x)) h) :=
  ⟨fun v0 v1 v2 v3 st h Q => gx_one (i := .iconst 0) (len := 1) (by decide +kernel) rfl,
   fun v0 v2 v3 w1 x st h Q => gx_one (i := .istore_n 2) (len := 1) (by decide +kernel) rfl,
   fun v0 v1 v2 v3 st h Q => gx_one (i := .iconst 0) (len := 1) (by decide +kernel) rfl,
   fun v0 v1 v3 w2 x st h Q => gx_one (i := .istore_n 3) (len := 1) (by decide +kernel) rfl,
   fun v1 v2 v3 x st h Q => gx_one (i := .aload_n 0) (len := 1) (by decide +kernel) rfl,
   fun v0 v1 v2 v3 a st h Q => gx_get (x := 25) (by decide +kernel) (by decide +kernel),
   fun v0 v1 v2 v3 x y st h Q => gx_br (i := .if_icmp .ge 21) (len := 3) (c := .ge) (by decide +kernel) rfl rfl,
   fun v1 v2 v3 x st h Q => gx_one (i := .aload_n 0) (len := 1) (by decide +kernel) rfl,
   fun v0 v1 v2 x st h Q => gx_one (i := .iload_n 3) (len := 1) (by decide +kernel) rfl,
   fun v0 v2 v3 x st h Q => gx_one (i := .iload_n 1) (len := 1) (by decide +kernel) rfl,
   fun v0 v1 v2 v3 a0 a1 o h Q => gx_virt (x := 56) (n := 2) (by decide +kernel) (by decide +kernel) rfl (Or.inl (Nat.le_of_ble_eq_true rfl)) (by show _ ≤ mr_mxl 38; rw [show mr_mxl 38 = 3 from by decide +kernel]; exact Nat.le_of_ble_eq_true rfl) (by decide +kernel),
   fun v0 v1 v2 v3 x st h Q => gx_br (i := .ifCond .eq 6) (len := 3) (c := .eq) (by decide +kernel) rfl rfl,
   fun v0 v3 x w1 st h Q => gx_one (i := .iinc 2 1) (len := 3) (by decide +kernel) rfl,
   fun v0 v1 x w2 st h Q => gx_one (i := .iinc 3 1) (len := 3) (by decide +kernel) rfl,
   fun v0 v1 v2 v3 st h Q => gx_one (i := .goto (-23)) (len := 3) (by decide +kernel) rfl,
   fun v0 v1 v3 x st h Q => gx_one (i := .iload_n 2) (len := 1) (by decide +kernel) rfl,
   fun v0 v1 v2 v3 x h Q => gx_ret (i := .ireturn) (len := 1) (by decide +kernel) rfl rfl (by simp only [mr_rt, if_pos]; rw [if_pos (Or.inl (by decide +kernel))])⟩
theorem s_ra_howManyAheadOf_5 (v0 v1 v2 v3 : Value) (x : Int32) (st : List Value) (h : mr_h) (Q : Option Value → mr_h → Prop) : mr_wp 71 5 [v0, v1, v2, v3, .int x] st h Q = mr_wp 71 7 [v0, v1, v2, v3, .int x] (.int x :: st) h Q := gx_one (i := .iload 4) (len := 2) (by decide +kernel) rfl
theorem S_ra_howManyAheadOf : (∀ (v0 v1 v2 v3 v4 : Value) (st : List Value) (h : mr_h) (Q : Option Value → mr_h → Prop), mr_wp 71 0 [v0, v1, v2, v3, v4] st h Q = mr_wp 71 1 [v0, v1, v2, v3, v4] (.int (0) :: st) h Q) ∧
    (∀ (v0 v1 v3 v4 : Value) (w2 : Int32) (x : Int32) (st : List Value) (h : mr_h) (Q : Option Value → mr_h → Prop), mr_wp 71 1 [v0, v1, .int w2, v3, v4] (.int x :: st) h Q = mr_wp 71 2 [v0, v1, .int w2, .int x, v4] st h Q) ∧
    (∀ (v0 v1 v2 v3 v4 : Value) (st : List Value) (h : mr_h) (Q : Option Value → mr_h → Prop), mr_wp 71 2 [v0, v1, v2, v3, v4] st h Q = mr_wp 71 3 [v0, v1, v2, v3, v4] (.int (0) :: st) h Q) ∧
    (∀ (v0 v1 v2 v4 : Value) (w3 : Int32) (x : Int32) (st : List Value) (h : mr_h) (Q : Option Value → mr_h → Prop), mr_wp 71 3 [v0, v1, v2, .int w3, v4] (.int x :: st) h Q = mr_wp 71 5 [v0, v1, v2, .int w3, .int x] st h Q) ∧
    (∀ (v0 v1 v3 v4 : Value) (x : Int32) (st : List Value) (h : mr_h) (Q : Option Value → mr_h → Prop), mr_wp 71 7 [v0, v1, .int x, v3, v4] st h Q = mr_wp 71 8 [v0, v1, .int x, v3, v4] (.int x :: st) h Q) ∧
    (∀ (v0 v1 v2 v3 v4 : Value) (x : Int32) (y : Int32) (st : List Value) (h : mr_h) (Q : Option Value → mr_h → Prop), mr_wp 71 8 [v0, v1, v2, v3, v4] (.int y :: .int x :: st) h Q = if y ≤ x then mr_wp 71 58 [v0, v1, v2, v3, v4] st h Q else mr_wp 71 11 [v0, v1, v2, v3, v4] st h Q) ∧
    (∀ (v1 v2 v3 v4 : Value) (x : Nat) (st : List Value) (h : mr_h) (Q : Option Value → mr_h → Prop), mr_wp 71 11 [.ref x, v1, v2, v3, v4] st h Q = mr_wp 71 12 [.ref x, v1, v2, v3, v4] (.ref x :: st) h Q) ∧
    (∀ (v0 v1 v2 v3 v4 : Value) (a : Nat) (st : List Value) (h : mr_h) (Q : Option Value → mr_h → Prop), mr_wp 71 12 [v0, v1, v2, v3, v4] (.ref a :: st) h Q = mr_gf (h.1 a) 5 0 (fun v => mr_wp 71 15 [v0, v1, v2, v3, v4] (v :: st) h Q)) ∧
    (∀ (v0 v1 v2 v3 : Value) (x : Int32) (st : List Value) (h : mr_h) (Q : Option Value → mr_h → Prop), mr_wp 71 15 [v0, v1, v2, v3, .int x] st h Q = mr_wp 71 17 [v0, v1, v2, v3, .int x] (.int x :: st) h Q) ∧
    (∀ (v0 v1 v2 v3 v4 : Value) (a : Nat) (x : Int32) (st : List Value) (h : mr_h) (Q : Option Value → mr_h → Prop), mr_wp 71 17 [v0, v1, v2, v3, v4] (.int x :: .ref a :: st) h Q = mr_ai (h.1 a) x (fun v => mr_wp 71 18 [v0, v1, v2, v3, v4] (.int v :: st) h Q)) ∧
    (∀ (v1 v2 v3 v4 : Value) (x : Nat) (st : List Value) (h : mr_h) (Q : Option Value → mr_h → Prop), mr_wp 71 18 [.ref x, v1, v2, v3, v4] st h Q = mr_wp 71 19 [.ref x, v1, v2, v3, v4] (.ref x :: st) h Q) ∧
    (∀ (v0 v1 v2 v3 v4 : Value) (a : Nat) (st : List Value) (h : mr_h) (Q : Option Value → mr_h → Prop), mr_wp 71 19 [v0, v1, v2, v3, v4] (.ref a :: st) h Q = mr_gf (h.1 a) 5 0 (fun v => mr_wp 71 22 [v0, v1, v2, v3, v4] (v :: st) h Q)) ∧
    (∀ (v0 v2 v3 v4 : Value) (x : Int32) (st : List Value) (h : mr_h) (Q : Option Value → mr_h → Prop), mr_wp 71 22 [v0, .int x, v2, v3, v4] st h Q = mr_wp 71 23 [v0, .int x, v2, v3, v4] (.int x :: st) h Q) ∧
    (∀ (v0 v1 v2 v3 v4 : Value) (a : Nat) (x : Int32) (st : List Value) (h : mr_h) (Q : Option Value → mr_h → Prop), mr_wp 71 23 [v0, v1, v2, v3, v4] (.int x :: .ref a :: st) h Q = mr_ai (h.1 a) x (fun v => mr_wp 71 24 [v0, v1, v2, v3, v4] (.int v :: st) h Q)) ∧
    (∀ (v0 v1 v2 v3 v4 : Value) (x : Int32) (y : Int32) (st : List Value) (h : mr_h) (Q : Option Value → mr_h → Prop), mr_wp 71 24 [v0, v1, v2, v3, v4] (.int y :: .int x :: st) h Q = if y < x then mr_wp 71 49 [v0, v1, v2, v3, v4] st h Q else mr_wp 71 27 [v0, v1, v2, v3, v4] st h Q) ∧
    (∀ (v1 v2 v3 v4 : Value) (x : Nat) (st : List Value) (h : mr_h) (Q : Option Value → mr_h → Prop), mr_wp 71 27 [.ref x, v1, v2, v3, v4] st h Q = mr_wp 71 28 [.ref x, v1, v2, v3, v4] (.ref x :: st) h Q) ∧
    (∀ (v0 v1 v2 v3 v4 : Value) (a : Nat) (st : List Value) (h : mr_h) (Q : Option Value → mr_h → Prop), mr_wp 71 28 [v0, v1, v2, v3, v4] (.ref a :: st) h Q = mr_gf (h.1 a) 5 0 (fun v => mr_wp 71 31 [v0, v1, v2, v3, v4] (v :: st) h Q)) ∧
    (∀ (v0 v1 v2 v3 : Value) (x : Int32) (st : List Value) (h : mr_h) (Q : Option Value → mr_h → Prop), mr_wp 71 31 [v0, v1, v2, v3, .int x] st h Q = mr_wp 71 33 [v0, v1, v2, v3, .int x] (.int x :: st) h Q) ∧
    (∀ (v0 v1 v2 v3 v4 : Value) (a : Nat) (x : Int32) (st : List Value) (h : mr_h) (Q : Option Value → mr_h → Prop), mr_wp 71 33 [v0, v1, v2, v3, v4] (.int x :: .ref a :: st) h Q = mr_ai (h.1 a) x (fun v => mr_wp 71 34 [v0, v1, v2, v3, v4] (.int v :: st) h Q)) ∧
    (∀ (v1 v2 v3 v4 : Value) (x : Nat) (st : List Value) (h : mr_h) (Q : Option Value → mr_h → Prop), mr_wp 71 34 [.ref x, v1, v2, v3, v4] st h Q = mr_wp 71 35 [.ref x, v1, v2, v3, v4] (.ref x :: st) h Q) ∧
    (∀ (v0 v1 v2 v3 v4 : Value) (a : Nat) (st : List Value) (h : mr_h) (Q : Option Value → mr_h → Prop), mr_wp 71 35 [v0, v1, v2, v3, v4] (.ref a :: st) h Q = mr_gf (h.1 a) 5 0 (fun v => mr_wp 71 38 [v0, v1, v2, v3, v4] (v :: st) h Q)) ∧
    (∀ (v0 v2 v3 v4 : Value) (x : Int32) (st : List Value) (h : mr_h) (Q : Option Value → mr_h → Prop), mr_wp 71 38 [v0, .int x, v2, v3, v4] st h Q = mr_wp 71 39 [v0, .int x, v2, v3, v4] (.int x :: st) h Q) ∧
    (∀ (v0 v1 v2 v3 v4 : Value) (a : Nat) (x : Int32) (st : List Value) (h : mr_h) (Q : Option Value → mr_h → Prop), mr_wp 71 39 [v0, v1, v2, v3, v4] (.int x :: .ref a :: st) h Q = mr_ai (h.1 a) x (fun v => mr_wp 71 40 [v0, v1, v2, v3, v4] (.int v :: st) h Q)) ∧
    (∀ (v0 v1 v2 v3 v4 : Value) (x : Int32) (y : Int32) (st : List Value) (h : mr_h) (Q : Option Value → mr_h → Prop), mr_wp 71 40 [v0, v1, v2, v3, v4] (.int y :: .int x :: st) h Q = if ¬ x = y then mr_wp 71 52 [v0, v1, v2, v3, v4] st h Q else mr_wp 71 43 [v0, v1, v2, v3, v4] st h Q) ∧
    (∀ (v0 v1 v2 v3 : Value) (x : Int32) (st : List Value) (h : mr_h) (Q : Option Value → mr_h → Prop), mr_wp 71 43 [v0, v1, v2, v3, .int x] st h Q = mr_wp 71 45 [v0, v1, v2, v3, .int x] (.int x :: st) h Q) ∧
    (∀ (v0 v2 v3 v4 : Value) (x : Int32) (st : List Value) (h : mr_h) (Q : Option Value → mr_h → Prop), mr_wp 71 45 [v0, .int x, v2, v3, v4] st h Q = mr_wp 71 46 [v0, .int x, v2, v3, v4] (.int x :: st) h Q) ∧
    (∀ (v0 v1 v2 v3 v4 : Value) (x : Int32) (y : Int32) (st : List Value) (h : mr_h) (Q : Option Value → mr_h → Prop), mr_wp 71 46 [v0, v1, v2, v3, v4] (.int y :: .int x :: st) h Q = if y ≤ x then mr_wp 71 52 [v0, v1, v2, v3, v4] st h Q else mr_wp 71 49 [v0, v1, v2, v3, v4] st h Q) ∧
    (∀ (v0 v1 v4 : Value) (x : Int32) (w2 : Int32) (st : List Value) (h : mr_h) (Q : Option Value → mr_h → Prop), mr_wp 71 49 [v0, v1, .int w2, .int x, v4] st h Q = mr_wp 71 52 [v0, v1, .int w2, .int (x + (1)), v4] st h Q) ∧
    (∀ (v0 v1 v2 : Value) (x : Int32) (w3 : Int32) (st : List Value) (h : mr_h) (Q : Option Value → mr_h → Prop), mr_wp 71 52 [v0, v1, v2, .int w3, .int x] st h Q = mr_wp 71 55 [v0, v1, v2, .int w3, .int (x + (1))] st h Q) ∧
    (∀ (v0 v1 v2 v3 v4 : Value) (st : List Value) (h : mr_h) (Q : Option Value → mr_h → Prop), mr_wp 71 55 [v0, v1, v2, v3, v4] st h Q = mr_wp 71 5 [v0, v1, v2, v3, v4] st h Q) ∧
    (∀ (v0 v1 v2 v4 : Value) (x : Int32) (st : List Value) (h : mr_h) (Q : Option Value → mr_h → Prop), mr_wp 71 58 [v0, v1, v2, .int x, v4] st h Q = mr_wp 71 59 [v0, v1, v2, .int x, v4] (.int x :: st) h Q) ∧
    (∀ (v0 v1 v2 v3 v4 : Value) (x : Int32) (h : mr_h) (Q : Option Value → mr_h → Prop), mr_wp 71 59 [v0, v1, v2, v3, v4] [.int x] h Q = Q (some (.int x)) h) :=
  ⟨fun v0 v1 v2 v3 v4 st h Q => gx_one (i := .iconst 0) (len := 1) (by decide +kernel) rfl,
   fun v0 v1 v3 v4 w2 x st h Q => gx_one (i := .istore_n 3) (len := 1) (by decide +kernel) rfl,
   fun v0 v1 v2 v3 v4 st h Q => gx_one (i := .iconst 0) (len := 1) (by decide +kernel) rfl,
   fun v0 v1 v2 v4 w3 x st h Q => gx_one (i := .istore 4) (len := 2) (by decide +kernel) rfl,
   fun v0 v1 v3 v4 x st h Q => gx_one (i := .iload_n 2) (len := 1) (by decide +kernel) rfl,
   fun v0 v1 v2 v3 v4 x y st h Q => gx_br (i := .if_icmp .ge 50) (len := 3) (c := .ge) (by decide +kernel) rfl rfl,
   fun v1 v2 v3 v4 x st h Q => gx_one (i := .aload_n 0) (len := 1) (by decide +kernel) rfl,
   fun v0 v1 v2 v3 v4 a st h Q => gx_get (x := 9) (by decide +kernel) (by decide +kernel),
   fun v0 v1 v2 v3 x st h Q => gx_one (i := .iload 4) (len := 2) (by decide +kernel) rfl,
   fun v0 v1 v2 v3 v4 a x st h Q => gx_iald (by decide +kernel),
   fun v1 v2 v3 v4 x st h Q => gx_one (i := .aload_n 0) (len := 1) (by decide +kernel) rfl,
   fun v0 v1 v2 v3 v4 a st h Q => gx_get (x := 9) (by decide +kernel) (by decide +kernel),
   fun v0 v2 v3 v4 x st h Q => gx_one (i := .iload_n 1) (len := 1) (by decide +kernel) rfl,
   fun v0 v1 v2 v3 v4 a x st h Q => gx_iald (by decide +kernel),
   fun v0 v1 v2 v3 v4 x y st h Q => gx_br (i := .if_icmp .gt 25) (len := 3) (c := .gt) (by decide +kernel) rfl rfl,
   fun v1 v2 v3 v4 x st h Q => gx_one (i := .aload_n 0) (len := 1) (by decide +kernel) rfl,
   fun v0 v1 v2 v3 v4 a st h Q => gx_get (x := 9) (by decide +kernel) (by decide +kernel),
   fun v0 v1 v2 v3 x st h Q => gx_one (i := .iload 4) (len := 2) (by decide +kernel) rfl,
   fun v0 v1 v2 v3 v4 a x st h Q => gx_iald (by decide +kernel),
   fun v1 v2 v3 v4 x st h Q => gx_one (i := .aload_n 0) (len := 1) (by decide +kernel) rfl,
   fun v0 v1 v2 v3 v4 a st h Q => gx_get (x := 9) (by decide +kernel) (by decide +kernel),
   fun v0 v2 v3 v4 x st h Q => gx_one (i := .iload_n 1) (len := 1) (by decide +kernel) rfl,
   fun v0 v1 v2 v3 v4 a x st h Q => gx_iald (by decide +kernel),
   fun v0 v1 v2 v3 v4 x y st h Q => gx_br (i := .if_icmp .ne 12) (len := 3) (c := .ne) (by decide +kernel) rfl rfl,
   fun v0 v1 v2 v3 x st h Q => gx_one (i := .iload 4) (len := 2) (by decide +kernel) rfl,
   fun v0 v2 v3 v4 x st h Q => gx_one (i := .iload_n 1) (len := 1) (by decide +kernel) rfl,
   fun v0 v1 v2 v3 v4 x y st h Q => gx_br (i := .if_icmp .ge 6) (len := 3) (c := .ge) (by decide +kernel) rfl rfl,
   fun v0 v1 v4 x w2 st h Q => gx_one (i := .iinc 3 1) (len := 3) (by decide +kernel) rfl,
   fun v0 v1 v2 x w3 st h Q => gx_one (i := .iinc 4 1) (len := 3) (by decide +kernel) rfl,
   fun v0 v1 v2 v3 v4 st h Q => gx_one (i := .goto (-50)) (len := 3) (by decide +kernel) rfl,
   fun v0 v1 v2 v4 x st h Q => gx_one (i := .iload_n 3) (len := 1) (by decide +kernel) rfl,
   fun v0 v1 v2 v3 v4 x h Q => gx_ret (i := .ireturn) (len := 1) (by decide +kernel) rfl rfl (by simp only [mr_rt, if_pos]; rw [if_pos (Or.inl (by decide +kernel))])⟩
theorem S_rl_undo : (∀ (x : Nat) (st : List Value) (h : mr_h) (Q : Option Value → mr_h → Prop), mr_wp 72 0 [.ref x] st h Q = mr_wp 72 1 [.ref x] (.ref x :: st) h Q) ∧
    (∀ (v0 : Value) (a : Nat) (st : List Value) (h : mr_h) (Q : Option Value → mr_h → Prop), mr_wp 72 1 [v0] (.ref a :: st) h Q = mr_gf (h.1 a) 10 9 (fun v => mr_wp 72 4 [v0] (v :: st) h Q)) ∧
    (∀ (x : Nat) (st : List Value) (h : mr_h) (Q : Option Value → mr_h → Prop), mr_wp 72 4 [.ref x] st h Q = mr_wp 72 5 [.ref x] (.ref x :: st) h Q) ∧
    (∀ (v0 : Value) (a : Nat) (st : List Value) (h : mr_h) (Q : Option Value → mr_h → Prop), mr_wp 72 5 [v0] (.ref a :: st) h Q = mr_gf (h.1 a) 10 0 (fun v => mr_wp 72 8 [v0] (v :: st) h Q)) ∧
    (∀ (v0 : Value) (a0 : Nat) (o : Nat) (h : mr_h) (Q : Option Value → mr_h → Prop), mr_wp 72 8 [v0] [.ref a0, .ref o] h Q = mr_rc (h.1 o) 4 (mr_run 73 [.ref o, .ref a0] h (fun v h' => mr_wp 72 11 [v0] (v.toList ++ []) h' Q))) ∧
    (∀ (v0 : Value) (x : Int32) (st : List Value) (h : mr_h) (Q : Option Value → mr_h → Prop), mr_wp 72 11 [v0] (.int x :: st) h Q = if ¬ x = 0 then mr_wp 72 17 [v0] st h Q else mr_wp 72 14 [v0] st h Q) ∧
    (∀ (v0 : Value) (st : List Value) (h : mr_h) (Q : Option Value → mr_h → Prop), mr_wp 72 14 [v0] st h Q = mr_wp 72 16 [v0] (.int (-2) :: st) h Q) ∧
    (∀ (v0 : Value) (x : Int32) (h : mr_h) (Q : Option Value → mr_h → Prop), mr_wp 72 16 [v0] [.int x] h Q = Q (some (.int x)) h) ∧
    (∀ (x : Nat) (st : List Value) (h : mr_h) (Q : Option Value → mr_h → Prop), mr_wp 72 17 [.ref x] st h Q = mr_wp 72 18 [.ref x] (.ref x :: st) h Q) ∧
    (∀ (v0 : Value) (a : Nat) (st : List Value) (h : mr_h) (Q : Option Value → mr_h → Prop), mr_wp 72 18 [v0] (.ref a :: st) h Q = mr_gf (h.1 a) 10 3 (fun v => mr_wp 72 21 [v0] (v :: st) h Q)) ∧
    (∀ (x : Nat) (st : List Value) (h : mr_h) (Q : Option Value → mr_h → Prop), mr_wp 72 21 [.ref x] st h Q = mr_wp 72 22 [.ref x] (.ref x :: st) h Q) ∧
    (∀ (v0 : Value) (a : Nat) (st : List Value) (h : mr_h) (Q : Option Value → mr_h → Prop), mr_wp 72 22 [v0] (.ref a :: st) h Q = mr_gf (h.1 a) 10 0 (fun v => mr_wp 72 25 [v0] (v :: st) h Q)) ∧
    (∀ (v0 : Value) (a0 : Nat) (o : Nat) (h : mr_h) (Q : Option Value → mr_h → Prop), mr_wp 72 25 [v0] [.ref a0, .ref o] h Q = mr_rc (h.1 o) 6 (mr_run 14 [.ref o, .ref a0] h (fun v h' => mr_wp 72 28 [v0] (v.toList ++ []) h' Q))) ∧
    (∀ (x : Nat) (st : List Value) (h : mr_h) (Q : Option Value → mr_h → Prop), mr_wp 72 28 [.ref x] st h Q = mr_wp 72 29 [.ref x] (.ref x :: st) h Q) ∧
    (∀ (v0 : Value) (a : Nat) (st : List Value) (h : mr_h) (Q : Option Value → mr_h → Prop), mr_wp 72 29 [v0] (.ref a :: st) h Q = mr_gf (h.1 a) 10 9 (fun v => mr_wp 72 32 [v0] (v :: st) h Q)) ∧
    (∀ (v0 : Value) (a : Nat) (st : List Value) (h : mr_h) (Q : Option Value → mr_h → Prop), mr_wp 72 32 [v0] (.ref a :: st) h Q = mr_gf (h.1 a) 4 0 (fun v => mr_wp 72 35 [v0] (v :: st) h Q)) ∧
    (∀ (v0 : Value) (x : Int32) (h : mr_h) (Q : Option Value → mr_h → Prop), mr_wp 72 35 [v0] [.int x] h Q = Q (some (.int x)) h) :=
  ⟨fun x st h Q => gx_one (i := .aload_n 0) (len := 1) (by decide +kernel) rfl,
   fun v0 a st h Q => gx_get (x := 71) (by decide +kernel) (by decide +kernel),
   fun x st h Q => gx_one (i := .aload_n 0) (len := 1) (by decide +kernel) rfl,
   fun v0 a st h Q => gx_get (x := 10) (by decide +kernel) (by decide +kernel),
   fun v0 a0 o h Q => gx_virt (x := 178) (n := 1) (by decide +kernel) (by decide +kernel) rfl (Or.inl (Nat.le_of_ble_eq_true rfl)) (by show _ ≤ mr_mxl 73; rw [show mr_mxl 73 = 2 from by decide +kernel]; exact Nat.le_of_ble_eq_true rfl) (by decide +kernel),
   fun v0 x st h Q => gx_br (i := .ifCond .ne 6) (len := 3) (c := .ne) (by decide +kernel) rfl rfl,
   fun v0 st h Q => gx_one (i := .bipush (-2)) (len := 2) (by decide +kernel) rfl,
   fun v0 x h Q => gx_ret (i := .ireturn) (len := 1) (by decide +kernel) rfl rfl (by simp only [mr_rt, if_pos]; rw [if_pos (Or.inl (by decide +kernel))]),
   fun x st h Q => gx_one (i := .aload_n 0) (len := 1) (by decide +kernel) rfl,
   fun v0 a st h Q => gx_get (x := 29) (by decide +kernel) (by decide +kernel),
   fun x st h Q => gx_one (i := .aload_n 0) (len := 1) (by decide +kernel) rfl,
   fun v0 a st h Q => gx_get (x := 10) (by decide +kernel) (by decide +kernel),
   fun v0 a0 o h Q => gx_virt (x := 82) (n := 1) (by decide +kernel) (by decide +kernel) rfl (Or.inl (Nat.le_of_ble_eq_true rfl)) (by show _ ≤ mr_mxl 14; rw [show mr_mxl 14 = 2 from by decide +kernel]; exact Nat.le_of_ble_eq_true rfl) (by decide +kernel),
   fun x st h Q => gx_one (i := .aload_n 0) (len := 1) (by decide +kernel) rfl,
   fun v0 a st h Q => gx_get (x := 71) (by decide +kernel) (by decide +kernel),
   fun v0 a st h Q => gx_get (x := 104) (by decide +kernel) (by decide +kernel),
   fun v0 x h Q => gx_ret (i := .ireturn) (len := 1) (by decide +kernel) rfl rfl (by simp only [mr_rt, if_pos]; rw [if_pos (Or.inl (by decide +kernel))])⟩
theorem S_pa_restore : (∀ (v1 : Value) (x : Nat) (st : List Value) (h : mr_h) (Q : Option Value → mr_h → Prop), mr_wp 73 0 [.ref x, v1] st h Q = mr_wp 73 1 [.ref x, v1] (.ref x :: st) h Q) ∧
    (∀ (v0 v1 : Value) (a : Nat) (st : List Value) (h : mr_h) (Q : Option Value → mr_h → Prop), mr_wp 73 1 [v0, v1] (.ref a :: st) h Q = mr_gf (h.1 a) 4 0 (fun v => mr_wp 73 4 [v0, v1] (v :: st) h Q)) ∧
    (∀ (v0 v1 : Value) (x : Int32) (st : List Value) (h : mr_h) (Q : Option Value → mr_h → Prop), mr_wp 73 4 [v0, v1] (.int x :: st) h Q = if ¬ x = 0 then mr_wp 73 9 [v0, v1] st h Q else mr_wp 73 7 [v0, v1] st h Q) ∧
    (∀ (v0 v1 : Value) (st : List Value) (h : mr_h) (Q : Option Value → mr_h → Prop), mr_wp 73 7 [v0, v1] st h Q = mr_wp 73 8 [v0, v1] (.int (0) :: st) h Q) ∧
    (∀ (v0 v1 : Value) (x : Int32) (h : mr_h) (Q : Option Value → mr_h → Prop) (hv : x &&& 1 = x), mr_wp 73 8 [v0, v1] [.int x] h Q = Q (some (.int x)) h) ∧
    (∀ (v1 : Value) (x : Nat) (st : List Value) (h : mr_h) (Q : Option Value → mr_h → Prop), mr_wp 73 9 [.ref x, v1] st h Q = mr_wp 73 10 [.ref x, v1] (.ref x :: st) h Q) ∧
    (∀ (v0 v1 : Value) (x : Nat) (st : List Value) (h : mr_h) (Q : Option Value → mr_h → Prop), mr_wp 73 10 [v0, v1] (.ref x :: st) h Q = mr_wp 73 11 [v0, v1] (.ref x :: .ref x :: st) h Q) ∧
    (∀ (v0 v1 : Value) (a : Nat) (st : List Value) (h : mr_h) (Q : Option Value → mr_h → Prop), mr_wp 73 11 [v0, v1] (.ref a :: st) h Q = mr_gf (h.1 a) 4 0 (fun v => mr_wp 73 14 [v0, v1] (v :: st) h Q)) ∧
    (∀ (v0 v1 : Value) (st : List Value) (h : mr_h) (Q : Option Value → mr_h → Prop), mr_wp 73 14 [v0, v1] st h Q = mr_wp 73 15 [v0, v1] (.int (1) :: st) h Q) ∧
    (∀ (v0 v1 : Value) (x : Int32) (y : Int32) (st : List Value) (h : mr_h) (Q : Option Value → mr_h → Prop), mr_wp 73 15 [v0, v1] (.int y :: .int x :: st) h Q = mr_wp 73 16 [v0, v1] (.int (x - y) :: st) h Q) ∧
    (∀ (v0 v1 : Value) (a : Nat) (x : Int32) (st : List Value) (h : mr_h) (Q : Option Value → mr_h → Prop), mr_wp 73 16 [v0, v1] (.int x :: .ref a :: st) h Q = mr_pf (h.1 a) 4 0 (.int x) (fun c => mr_wp 73 19 [v0, v1] st (mr_up h a c) Q)) ∧
    (∀ (v0 : Value) (x : Nat) (st : List Value) (h : mr_h) (Q : Option Value → mr_h → Prop), mr_wp 73 19 [v0, .ref x] st h Q = mr_wp 73 20 [v0, .ref x] (.ref x :: st) h Q) ∧
    (∀ (v1 : Value) (x : Nat) (st : List Value) (h : mr_h) (Q : Option Value → mr_h → Prop), mr_wp 73 20 [.ref x, v1] st h Q = mr_wp 73 21 [.ref x, v1] (.ref x :: st) h Q) ∧
    (∀ (v0 v1 : Value) (a : Nat) (st : List Value) (h : mr_h) (Q : Option Value → mr_h → Prop), mr_wp 73 21 [v0, v1] (.ref a :: st) h Q = mr_gf (h.1 a) 4 1 (fun v => mr_wp 73 24 [v0, v1] (v :: st) h Q)) ∧
    (∀ (v1 : Value) (x : Nat) (st : List Value) (h : mr_h) (Q : Option Value → mr_h → Prop), mr_wp 73 24 [.ref x, v1] st h Q = mr_wp 73 25 [.ref x, v1] (.ref x :: st) h Q) ∧
    (∀ (v0 v1 : Value) (a : Nat) (st : List Value) (h : mr_h) (Q : Option Value → mr_h → Prop), mr_wp 73 25 [v0, v1] (.ref a :: st) h Q = mr_gf (h.1 a) 4 0 (fun v => mr_wp 73 28 [v0, v1] (v :: st) h Q)) ∧
    (∀ (v0 v1 : Value) (a : Nat) (x : Int32) (st : List Value) (h : mr_h) (Q : Option Value → mr_h → Prop), mr_wp 73 28 [v0, v1] (.int x :: .ref a :: st) h Q = mr_aq (h.1 a) x (fun v => mr_wp 73 29 [v0, v1] (.ref v :: st) h Q)) ∧
    (∀ (v0 v1 : Value) (a0 : Nat) (o : Nat) (h : mr_h) (Q : Option Value → mr_h → Prop), mr_wp 73 29 [v0, v1] [.ref a0, .ref o] h Q = mr_rc (h.1 o) 3 (mr_run 41 [.ref o, .ref a0] h (fun v h' => mr_wp 73 32 [v0, v1] (v.toList ++ []) h' Q))) ∧
    (∀ (v0 v1 : Value) (st : List Value) (h : mr_h) (Q : Option Value → mr_h → Prop), mr_wp 73 32 [v0, v1] st h Q = mr_wp 73 33 [v0, v1] (.int (1) :: st) h Q) ∧
    (∀ (v0 v1 : Value) (x : Int32) (h : mr_h) (Q : Option Value → mr_h → Prop) (hv : x &&& 1 = x), mr_wp 73 33 [v0, v1] [.int x] h Q = Q (some (.int x)) h) :=
  ⟨fun v1 x st h Q => gx_one (i := .aload_n 0) (len := 1) (by decide +kernel) rfl,
   fun v0 v1 a st h Q => gx_get (x := 9) (by decide +kernel) (by decide +kernel),
   fun v0 v1 x st h Q => gx_br (i := .ifCond .ne 5) (len := 3) (c := .ne) (by decide +kernel) rfl rfl,
   fun v0 v1 st h Q => gx_one (i := .iconst 0) (len := 1) (by decide +kernel) rfl,
   fun v0 v1 x h Q hv => gx_ret (i := .ireturn) (len := 1) (by decide +kernel) rfl rfl (by simp only [mr_rt, if_pos]; rw [if_pos (Or.inr ⟨by decide +kernel, hv⟩)]),
   fun v1 x st h Q => gx_one (i := .aload_n 0) (len := 1) (by decide +kernel) rfl,
   fun v0 v1 x st h Q => gx_one (i := .dup) (len := 1) (by decide +kernel) rfl,
   fun v0 v1 a st h Q => gx_get (x := 9) (by decide +kernel) (by decide +kernel),
   fun v0 v1 st h Q => gx_one (i := .iconst 1) (len := 1) (by decide +kernel) rfl,
   fun v0 v1 x y st h Q => gx_one (i := .isub) (len := 1) (by decide +kernel) rfl,
   fun v0 v1 a x st h Q => gx_put (x := 9) (by decide +kernel) (by decide +kernel) ⟨rfl, Or.inl rfl⟩,
   fun v0 x st h Q => gx_one (i := .aload_n 1) (len := 1) (by decide +kernel) rfl,
   fun v1 x st h Q => gx_one (i := .aload_n 0) (len := 1) (by decide +kernel) rfl,
   fun v0 v1 a st h Q => gx_get (x := 17) (by decide +kernel) (by decide +kernel),
   fun v1 x st h Q => gx_one (i := .aload_n 0) (len := 1) (by decide +kernel) rfl,
   fun v0 v1 a st h Q => gx_get (x := 9) (by decide +kernel) (by decide +kernel),
   fun v0 v1 a x st h Q => gx_qald (by decide +kernel),
   fun v0 v1 a0 o h Q => gx_virt (x := 25) (n := 1) (by decide +kernel) (by decide +kernel) rfl (Or.inl (Nat.le_of_ble_eq_true rfl)) (by show _ ≤ mr_mxl 41; rw [show mr_mxl 41 = 2 from by decide +kernel]; exact Nat.le_of_ble_eq_true rfl) (by decide +kernel),
   fun v0 v1 st h Q => gx_one (i := .iconst 1) (len := 1) (by decide +kernel) rfl,
   fun v0 v1 x h Q hv => gx_ret (i := .ireturn) (len := 1) (by decide +kernel) rfl rfl (by simp only [mr_rt, if_pos]; rw [if_pos (Or.inr ⟨by decide +kernel, hv⟩)])⟩
theorem S_rl_comes : (∀ (v1 v2 : Value) (x : Nat) (st : List Value) (h : mr_h) (Q : Option Value → mr_h → Prop), mr_wp 74 0 [.ref x, v1, v2] st h Q = mr_wp 74 1 [.ref x, v1, v2] (.ref x :: st) h Q) ∧
    (∀ (v0 v2 : Value) (x : Int32) (st : List Value) (h : mr_h) (Q : Option Value → mr_h → Prop), mr_wp 74 1 [v0, .int x, v2] st h Q = mr_wp 74 2 [v0, .int x, v2] (.int x :: st) h Q) ∧
    (∀ (v0 v1 : Value) (x : Int32) (st : List Value) (h : mr_h) (Q : Option Value → mr_h → Prop), mr_wp 74 2 [v0, v1, .int x] st h Q = mr_wp 74 3 [v0, v1, .int x] (.int x :: st) h Q) ∧
    (∀ (v0 v1 v2 : Value) (a0 : Int32) (a1 : Int32) (o : Nat) (h : mr_h) (Q : Option Value → mr_h → Prop), mr_wp 74 3 [v0, v1, v2] [.int a1, .int a0, .ref o] h Q = mr_rc (h.1 o) 10 (mr_run 47 [.ref o, .int a0, .int a1] h (fun v h' => mr_wp 74 6 [v0, v1, v2] (v.toList ++ []) h' Q))) ∧
    (∀ (v0 v1 v2 : Value) (x : Int32) (st : List Value) (h : mr_h) (Q : Option Value → mr_h → Prop), mr_wp 74 6 [v0, v1, v2] (.int x :: st) h Q = if ¬ x = 0 then mr_wp 74 11 [v0, v1, v2] st h Q else mr_wp 74 9 [v0, v1, v2] st h Q) ∧
    (∀ (v0 v1 v2 : Value) (st : List Value) (h : mr_h) (Q : Option Value → mr_h → Prop), mr_wp 74 9 [v0, v1, v2] st h Q = mr_wp 74 10 [v0, v1, v2] (.int (-1) :: st) h Q) ∧
    (∀ (v0 v1 v2 : Value) (x : Int32) (h : mr_h) (Q : Option Value → mr_h → Prop), mr_wp 74 10 [v0, v1, v2] [.int x] h Q = Q (some (.int x)) h) ∧
    (∀ (v1 v2 : Value) (x : Nat) (st : List Value) (h : mr_h) (Q : Option Value → mr_h → Prop), mr_wp 74 11 [.ref x, v1, v2] st h Q = mr_wp 74 12 [.ref x, v1, v2] (.ref x :: st) h Q) ∧
    (∀ (v0 v1 v2 : Value) (a : Nat) (st : List Value) (h : mr_h) (Q : Option Value → mr_h → Prop), mr_wp 74 12 [v0, v1, v2] (.ref a :: st) h Q = mr_gf (h.1 a) 10 3 (fun v => mr_wp 74 15 [v0, v1, v2] (v :: st) h Q)) ∧
    (∀ (v0 v1 v2 : Value) (a : Nat) (st : List Value) (h : mr_h) (Q : Option Value → mr_h → Prop), mr_wp 74 15 [v0, v1, v2] (.ref a :: st) h Q = mr_gf (h.1 a) 6 4 (fun v => mr_wp 74 18 [v0, v1, v2] (v :: st) h Q)) ∧
    (∀ (v0 v2 : Value) (x : Int32) (st : List Value) (h : mr_h) (Q : Option Value → mr_h → Prop), mr_wp 74 18 [v0, .int x, v2] st h Q = mr_wp 74 19 [v0, .int x, v2] (.int x :: st) h Q) ∧
    (∀ (v0 v1 v2 : Value) (a : Nat) (x : Int32) (st : List Value) (h : mr_h) (Q : Option Value → mr_h → Prop), mr_wp 74 19 [v0, v1, v2] (.int x :: .ref a :: st) h Q = mr_ai (h.1 a) x (fun v => mr_wp 74 20 [v0, v1, v2] (.int v :: st) h Q)) ∧
    (∀ (v1 v2 : Value) (x : Nat) (st : List Value) (h : mr_h) (Q : Option Value → mr_h → Prop), mr_wp 74 20 [.ref x, v1, v2] st h Q = mr_wp 74 21 [.ref x, v1, v2] (.ref x :: st) h Q) ∧
    (∀ (v0 v1 v2 : Value) (a : Nat) (st : List Value) (h : mr_h) (Q : Option Value → mr_h → Prop), mr_wp 74 21 [v0, v1, v2] (.ref a :: st) h Q = mr_gf (h.1 a) 10 3 (fun v => mr_wp 74 24 [v0, v1, v2] (v :: st) h Q)) ∧
    (∀ (v0 v1 v2 : Value) (a : Nat) (st : List Value) (h : mr_h) (Q : Option Value → mr_h → Prop), mr_wp 74 24 [v0, v1, v2] (.ref a :: st) h Q = mr_gf (h.1 a) 6 3 (fun v => mr_wp 74 27 [v0, v1, v2] (v :: st) h Q)) ∧
    (∀ (v0 v1 : Value) (x : Int32) (st : List Value) (h : mr_h) (Q : Option Value → mr_h → Prop), mr_wp 74 27 [v0, v1, .int x] st h Q = mr_wp 74 28 [v0, v1, .int x] (.int x :: st) h Q) ∧
    (∀ (v0 v1 v2 : Value) (a : Nat) (x : Int32) (st : List Value) (h : mr_h) (Q : Option Value → mr_h → Prop), mr_wp 74 28 [v0, v1, v2] (.int x :: .ref a :: st) h Q = mr_ai (h.1 a) x (fun v => mr_wp 74 29 [v0, v1, v2] (.int v :: st) h Q)) ∧
    (∀ (v0 v1 v2 : Value) (x : Int32) (y : Int32) (st : List Value) (h : mr_h) (Q : Option Value → mr_h → Prop), mr_wp 74 29 [v0, v1, v2] (.int y :: .int x :: st) h Q = mr_wp 74 30 [v0, v1, v2] (.int (x &&& y) :: st) h Q) ∧
    (∀ (v0 v1 v2 : Value) (x : Int32) (st : List Value) (h : mr_h) (Q : Option Value → mr_h → Prop), mr_wp 74 30 [v0, v1, v2] (.int x :: st) h Q = if x = 0 then mr_wp 74 37 [v0, v1, v2] st h Q else mr_wp 74 33 [v0, v1, v2] st h Q) ∧
    (∀ (v0 v1 v2 : Value) (st : List Value) (h : mr_h) (Q : Option Value → mr_h → Prop), mr_wp 74 33 [v0, v1, v2] st h Q = mr_wp 74 34 [v0, v1, v2] (.int (1) :: st) h Q) ∧
    (∀ (v0 v1 v2 : Value) (st : List Value) (h : mr_h) (Q : Option Value → mr_h → Prop), mr_wp 74 34 [v0, v1, v2] st h Q = mr_wp 74 38 [v0, v1, v2] st h Q) ∧
    (∀ (v0 v1 v2 : Value) (st : List Value) (h : mr_h) (Q : Option Value → mr_h → Prop), mr_wp 74 37 [v0, v1, v2] st h Q = mr_wp 74 38 [v0, v1, v2] (.int (0) :: st) h Q) ∧
    (∀ (v0 v1 v2 : Value) (x : Int32) (h : mr_h) (Q : Option Value → mr_h → Prop), mr_wp 74 38 [v0, v1, v2] [.int x] h Q = Q (some (.int x)) h) :=
  ⟨fun v1 v2 x st h Q => gx_one (i := .aload_n 0) (len := 1) (by decide +kernel) rfl,
   fun v0 v2 x st h Q => gx_one (i := .iload_n 1) (len := 1) (by decide +kernel) rfl,
   fun v0 v1 x st h Q => gx_one (i := .iload_n 2) (len := 1) (by decide +kernel) rfl,
   fun v0 v1 v2 a0 a1 o h Q => gx_virt (x := 182) (n := 2) (by decide +kernel) (by decide +kernel) rfl (Or.inl (Nat.le_of_ble_eq_true rfl)) (by show _ ≤ mr_mxl 47; rw [show mr_mxl 47 = 3 from by decide +kernel]; exact Nat.le_of_ble_eq_true rfl) (by decide +kernel),
   fun v0 v1 v2 x st h Q => gx_br (i := .ifCond .ne 5) (len := 3) (c := .ne) (by decide +kernel) rfl rfl,
   fun v0 v1 v2 st h Q => gx_one (i := .iconst (-1)) (len := 1) (by decide +kernel) rfl,
   fun v0 v1 v2 x h Q => gx_ret (i := .ireturn) (len := 1) (by decide +kernel) rfl rfl (by simp only [mr_rt, if_pos]; rw [if_pos (Or.inl (by decide +kernel))]),
   fun v1 v2 x st h Q => gx_one (i := .aload_n 0) (len := 1) (by decide +kernel) rfl,
   fun v0 v1 v2 a st h Q => gx_get (x := 29) (by decide +kernel) (by decide +kernel),
   fun v0 v1 v2 a st h Q => gx_get (x := 125) (by decide +kernel) (by decide +kernel),
   fun v0 v2 x st h Q => gx_one (i := .iload_n 1) (len := 1) (by decide +kernel) rfl,
   fun v0 v1 v2 a x st h Q => gx_iald (by decide +kernel),
   fun v1 v2 x st h Q => gx_one (i := .aload_n 0) (len := 1) (by decide +kernel) rfl,
   fun v0 v1 v2 a st h Q => gx_get (x := 29) (by decide +kernel) (by decide +kernel),
   fun v0 v1 v2 a st h Q => gx_get (x := 122) (by decide +kernel) (by decide +kernel),
   fun v0 v1 x st h Q => gx_one (i := .iload_n 2) (len := 1) (by decide +kernel) rfl,
   fun v0 v1 v2 a x st h Q => gx_iald (by decide +kernel),
   fun v0 v1 v2 x y st h Q => gx_one (i := .iand) (len := 1) (by decide +kernel) rfl,
   fun v0 v1 v2 x st h Q => gx_br (i := .ifCond .eq 7) (len := 3) (c := .eq) (by decide +kernel) rfl rfl,
   fun v0 v1 v2 st h Q => gx_one (i := .iconst 1) (len := 1) (by decide +kernel) rfl,
   fun v0 v1 v2 st h Q => gx_one (i := .goto 4) (len := 3) (by decide +kernel) rfl,
   fun v0 v1 v2 st h Q => gx_one (i := .iconst 0) (len := 1) (by decide +kernel) rfl,
   fun v0 v1 v2 x h Q => gx_ret (i := .ireturn) (len := 1) (by decide +kernel) rfl rfl (by simp only [mr_rt, if_pos]; rw [if_pos (Or.inl (by decide +kernel))])⟩
theorem S_rl_hub : (∀ (v1 v2 : Value) (x : Nat) (st : List Value) (h : mr_h) (Q : Option Value → mr_h → Prop), mr_wp 75 0 [.ref x, v1, v2] st h Q = mr_wp 75 1 [.ref x, v1, v2] (.ref x :: st) h Q) ∧
    (∀ (v0 v2 : Value) (x : Int32) (st : List Value) (h : mr_h) (Q : Option Value → mr_h → Prop), mr_wp 75 1 [v0, .int x, v2] st h Q = mr_wp 75 2 [v0, .int x, v2] (.int x :: st) h Q) ∧
    (∀ (v0 v1 : Value) (x : Int32) (st : List Value) (h : mr_h) (Q : Option Value → mr_h → Prop), mr_wp 75 2 [v0, v1, .int x] st h Q = mr_wp 75 3 [v0, v1, .int x] (.int x :: st) h Q) ∧
    (∀ (v0 v1 v2 : Value) (a0 : Int32) (a1 : Int32) (o : Nat) (h : mr_h) (Q : Option Value → mr_h → Prop), mr_wp 75 3 [v0, v1, v2] [.int a1, .int a0, .ref o] h Q = mr_rc (h.1 o) 10 (mr_run 47 [.ref o, .int a0, .int a1] h (fun v h' => mr_wp 75 6 [v0, v1, v2] (v.toList ++ []) h' Q))) ∧
    (∀ (v0 v1 v2 : Value) (x : Int32) (st : List Value) (h : mr_h) (Q : Option Value → mr_h → Prop), mr_wp 75 6 [v0, v1, v2] (.int x :: st) h Q = if ¬ x = 0 then mr_wp 75 11 [v0, v1, v2] st h Q else mr_wp 75 9 [v0, v1, v2] st h Q) ∧
    (∀ (v0 v1 v2 : Value) (st : List Value) (h : mr_h) (Q : Option Value → mr_h → Prop), mr_wp 75 9 [v0, v1, v2] st h Q = mr_wp 75 10 [v0, v1, v2] (.int (-1) :: st) h Q) ∧
    (∀ (v0 v1 v2 : Value) (x : Int32) (h : mr_h) (Q : Option Value → mr_h → Prop), mr_wp 75 10 [v0, v1, v2] [.int x] h Q = Q (some (.int x)) h) ∧
    (∀ (v1 v2 : Value) (x : Nat) (st : List Value) (h : mr_h) (Q : Option Value → mr_h → Prop), mr_wp 75 11 [.ref x, v1, v2] st h Q = mr_wp 75 12 [.ref x, v1, v2] (.ref x :: st) h Q) ∧
    (∀ (v0 v1 v2 : Value) (a : Nat) (st : List Value) (h : mr_h) (Q : Option Value → mr_h → Prop), mr_wp 75 12 [v0, v1, v2] (.ref a :: st) h Q = mr_gf (h.1 a) 10 3 (fun v => mr_wp 75 15 [v0, v1, v2] (v :: st) h Q)) ∧
    (∀ (v1 v2 : Value) (x : Nat) (st : List Value) (h : mr_h) (Q : Option Value → mr_h → Prop), mr_wp 75 15 [.ref x, v1, v2] st h Q = mr_wp 75 16 [.ref x, v1, v2] (.ref x :: st) h Q) ∧
    (∀ (v0 v1 v2 : Value) (a : Nat) (st : List Value) (h : mr_h) (Q : Option Value → mr_h → Prop), mr_wp 75 16 [v0, v1, v2] (.ref a :: st) h Q = mr_gf (h.1 a) 10 3 (fun v => mr_wp 75 19 [v0, v1, v2] (v :: st) h Q)) ∧
    (∀ (v0 v1 v2 : Value) (a : Nat) (st : List Value) (h : mr_h) (Q : Option Value → mr_h → Prop), mr_wp 75 19 [v0, v1, v2] (.ref a :: st) h Q = mr_gf (h.1 a) 6 4 (fun v => mr_wp 75 22 [v0, v1, v2] (v :: st) h Q)) ∧
    (∀ (v0 v2 : Value) (x : Int32) (st : List Value) (h : mr_h) (Q : Option Value → mr_h → Prop), mr_wp 75 22 [v0, .int x, v2] st h Q = mr_wp 75 23 [v0, .int x, v2] (.int x :: st) h Q) ∧
    (∀ (v0 v1 v2 : Value) (a : Nat) (x : Int32) (st : List Value) (h : mr_h) (Q : Option Value → mr_h → Prop), mr_wp 75 23 [v0, v1, v2] (.int x :: .ref a :: st) h Q = mr_ai (h.1 a) x (fun v => mr_wp 75 24 [v0, v1, v2] (.int v :: st) h Q)) ∧
    (∀ (v1 v2 : Value) (x : Nat) (st : List Value) (h : mr_h) (Q : Option Value → mr_h → Prop), mr_wp 75 24 [.ref x, v1, v2] st h Q = mr_wp 75 25 [.ref x, v1, v2] (.ref x :: st) h Q) ∧
    (∀ (v0 v1 v2 : Value) (a : Nat) (st : List Value) (h : mr_h) (Q : Option Value → mr_h → Prop), mr_wp 75 25 [v0, v1, v2] (.ref a :: st) h Q = mr_gf (h.1 a) 10 3 (fun v => mr_wp 75 28 [v0, v1, v2] (v :: st) h Q)) ∧
    (∀ (v0 v1 v2 : Value) (a : Nat) (st : List Value) (h : mr_h) (Q : Option Value → mr_h → Prop), mr_wp 75 28 [v0, v1, v2] (.ref a :: st) h Q = mr_gf (h.1 a) 6 3 (fun v => mr_wp 75 31 [v0, v1, v2] (v :: st) h Q)) ∧
    (∀ (v0 v1 : Value) (x : Int32) (st : List Value) (h : mr_h) (Q : Option Value → mr_h → Prop), mr_wp 75 31 [v0, v1, .int x] st h Q = mr_wp 75 32 [v0, v1, .int x] (.int x :: st) h Q) ∧
    (∀ (v0 v1 v2 : Value) (a : Nat) (x : Int32) (st : List Value) (h : mr_h) (Q : Option Value → mr_h → Prop), mr_wp 75 32 [v0, v1, v2] (.int x :: .ref a :: st) h Q = mr_ai (h.1 a) x (fun v => mr_wp 75 33 [v0, v1, v2] (.int v :: st) h Q)) ∧
    (∀ (v0 v1 v2 : Value) (x : Int32) (y : Int32) (st : List Value) (h : mr_h) (Q : Option Value → mr_h → Prop), mr_wp 75 33 [v0, v1, v2] (.int y :: .int x :: st) h Q = mr_wp 75 34 [v0, v1, v2] (.int (x &&& y) :: st) h Q) ∧
    (∀ (v0 v1 v2 : Value) (a0 : Int32) (o : Nat) (h : mr_h) (Q : Option Value → mr_h → Prop), mr_wp 75 34 [v0, v1, v2] [.int a0, .ref o] h Q = mr_rc (h.1 o) 6 (mr_run 76 [.ref o, .int a0] h (fun v h' => mr_wp 75 37 [v0, v1, v2] (v.toList ++ []) h' Q))) ∧
    (∀ (v0 v1 v2 : Value) (x : Int32) (h : mr_h) (Q : Option Value → mr_h → Prop), mr_wp 75 37 [v0, v1, v2] [.int x] h Q = Q (some (.int x)) h) :=
  ⟨fun v1 v2 x st h Q => gx_one (i := .aload_n 0) (len := 1) (by decide +kernel) rfl,
   fun v0 v2 x st h Q => gx_one (i := .iload_n 1) (len := 1) (by decide +kernel) rfl,
   fun v0 v1 x st h Q => gx_one (i := .iload_n 2) (len := 1) (by decide +kernel) rfl,
   fun v0 v1 v2 a0 a1 o h Q => gx_virt (x := 182) (n := 2) (by decide +kernel) (by decide +kernel) rfl (Or.inl (Nat.le_of_ble_eq_true rfl)) (by show _ ≤ mr_mxl 47; rw [show mr_mxl 47 = 3 from by decide +kernel]; exact Nat.le_of_ble_eq_true rfl) (by decide +kernel),
   fun v0 v1 v2 x st h Q => gx_br (i := .ifCond .ne 5) (len := 3) (c := .ne) (by decide +kernel) rfl rfl,
   fun v0 v1 v2 st h Q => gx_one (i := .iconst (-1)) (len := 1) (by decide +kernel) rfl,
   fun v0 v1 v2 x h Q => gx_ret (i := .ireturn) (len := 1) (by decide +kernel) rfl rfl (by simp only [mr_rt, if_pos]; rw [if_pos (Or.inl (by decide +kernel))]),
   fun v1 v2 x st h Q => gx_one (i := .aload_n 0) (len := 1) (by decide +kernel) rfl,
   fun v0 v1 v2 a st h Q => gx_get (x := 29) (by decide +kernel) (by decide +kernel),
   fun v1 v2 x st h Q => gx_one (i := .aload_n 0) (len := 1) (by decide +kernel) rfl,
   fun v0 v1 v2 a st h Q => gx_get (x := 29) (by decide +kernel) (by decide +kernel),
   fun v0 v1 v2 a st h Q => gx_get (x := 125) (by decide +kernel) (by decide +kernel),
   fun v0 v2 x st h Q => gx_one (i := .iload_n 1) (len := 1) (by decide +kernel) rfl,
   fun v0 v1 v2 a x st h Q => gx_iald (by decide +kernel),
   fun v1 v2 x st h Q => gx_one (i := .aload_n 0) (len := 1) (by decide +kernel) rfl,
   fun v0 v1 v2 a st h Q => gx_get (x := 29) (by decide +kernel) (by decide +kernel),
   fun v0 v1 v2 a st h Q => gx_get (x := 122) (by decide +kernel) (by decide +kernel),
   fun v0 v1 x st h Q => gx_one (i := .iload_n 2) (len := 1) (by decide +kernel) rfl,
   fun v0 v1 v2 a x st h Q => gx_iald (by decide +kernel),
   fun v0 v1 v2 x y st h Q => gx_one (i := .iand) (len := 1) (by decide +kernel) rfl,
   fun v0 v1 v2 a0 o h Q => gx_virt (x := 185) (n := 1) (by decide +kernel) (by decide +kernel) rfl (Or.inl (Nat.le_of_ble_eq_true rfl)) (by show _ ≤ mr_mxl 76; rw [show mr_mxl 76 = 4 from by decide +kernel]; exact Nat.le_of_ble_eq_true rfl) (by decide +kernel),
   fun v0 v1 v2 x h Q => gx_ret (i := .ireturn) (len := 1) (by decide +kernel) rfl rfl (by simp only [mr_rt, if_pos]; rw [if_pos (Or.inl (by decide +kernel))])⟩
theorem s_re_lowestRanked_5 (v0 v1 v2 : Value) (x : Int32) (st : List Value) (h : mr_h) (Q : Option Value → mr_h → Prop) : mr_wp 76 5 [v0, v1, v2, .int x] st h Q = mr_wp 76 6 [v0, v1, v2, .int x] (.int x :: st) h Q := gx_one (i := .iload_n 3) (len := 1) (by decide +kernel) rfl
theorem S_re_lowestRanked : (∀ (v0 v1 v2 v3 : Value) (st : List Value) (h : mr_h) (Q : Option Value → mr_h → Prop), mr_wp 76 0 [v0, v1, v2, v3] st h Q = mr_wp 76 2 [v0, v1, v2, v3] (.int (-9) :: st) h Q) ∧
    (∀ (v0 v2 v3 : Value) (w1 : Int32) (x : Int32) (st : List Value) (h : mr_h) (Q : Option Value → mr_h → Prop), mr_wp 76 2 [v0, .int w1, v2, v3] (.int x :: st) h Q = mr_wp 76 3 [v0, .int w1, .int x, v3] st h Q) ∧
    (∀ (v0 v1 v2 v3 : Value) (st : List Value) (h : mr_h) (Q : Option Value → mr_h → Prop), mr_wp 76 3 [v0, v1, v2, v3] st h Q = mr_wp 76 4 [v0, v1, v2, v3] (.int (0) :: st) h Q) ∧
    (∀ (v0 v1 v3 : Value) (w2 : Int32) (x : Int32) (st : List Value) (h : mr_h) (Q : Option Value → mr_h → Prop), mr_wp 76 4 [v0, v1, .int w2, v3] (.int x :: st) h Q = mr_wp 76 5 [v0, v1, .int w2, .int x] st h Q) ∧
    (∀ (v1 v2 v3 : Value) (x : Nat) (st : List Value) (h : mr_h) (Q : Option Value → mr_h → Prop), mr_wp 76 6 [.ref x, v1, v2, v3] st h Q = mr_wp 76 7 [.ref x, v1, v2, v3] (.ref x :: st) h Q) ∧
    (∀ (v0 v1 v2 v3 : Value) (a : Nat) (st : List Value) (h : mr_h) (Q : Option Value → mr_h → Prop), mr_wp 76 7 [v0, v1, v2, v3] (.ref a :: st) h Q = mr_gf (h.1 a) 6 8 (fun v => mr_wp 76 10 [v0, v1, v2, v3] (v :: st) h Q)) ∧
    (∀ (v0 v1 v2 v3 : Value) (x : Int32) (y : Int32) (st : List Value) (h : mr_h) (Q : Option Value → mr_h → Prop), mr_wp 76 10 [v0, v1, v2, v3] (.int y :: .int x :: st) h Q = if y ≤ x then mr_wp 76 50 [v0, v1, v2, v3] st h Q else mr_wp 76 13 [v0, v1, v2, v3] st h Q) ∧
    (∀ (v0 v2 v3 : Value) (x : Int32) (st : List Value) (h : mr_h) (Q : Option Value → mr_h → Prop), mr_wp 76 13 [v0, .int x, v2, v3] st h Q = mr_wp 76 14 [v0, .int x, v2, v3] (.int x :: st) h Q) ∧
    (∀ (v0 v1 v2 : Value) (x : Int32) (st : List Value) (h : mr_h) (Q : Option Value → mr_h → Prop), mr_wp 76 14 [v0, v1, v2, .int x] st h Q = mr_wp 76 15 [v0, v1, v2, .int x] (.int x :: st) h Q) ∧
    (∀ (v0 v1 v2 v3 : Value) (a0 : Int32) (a1 : Int32) (h : mr_h) (Q : Option Value → mr_h → Prop), mr_wp 76 15 [v0, v1, v2, v3] [.int a1, .int a0] h Q = mr_run 17 [.int a0, .int a1] h (fun v h' => mr_wp 76 18 [v0, v1, v2, v3] (v.toList ++ []) h' Q)) ∧
    (∀ (v0 v1 v2 v3 : Value) (x : Int32) (st : List Value) (h : mr_h) (Q : Option Value → mr_h → Prop), mr_wp 76 18 [v0, v1, v2, v3] (.int x :: st) h Q = if x = 0 then mr_wp 76 44 [v0, v1, v2, v3] st h Q else mr_wp 76 21 [v0, v1, v2, v3] st h Q) ∧
    (∀ (v0 v1 v3 : Value) (x : Int32) (st : List Value) (h : mr_h) (Q : Option Value → mr_h → Prop), mr_wp 76 21 [v0, v1, .int x, v3] st h Q = mr_wp 76 22 [v0, v1, .int x, v3] (.int x :: st) h Q) ∧
    (∀ (v0 v1 v2 v3 : Value) (st : List Value) (h : mr_h) (Q : Option Value → mr_h → Prop), mr_wp 76 22 [v0, v1, v2, v3] st h Q = mr_wp 76 24 [v0, v1, v2, v3] (.int (-9) :: st) h Q) ∧
    (∀ (v0 v1 v2 v3 : Value) (x : Int32) (y : Int32) (st : List Value) (h : mr_h) (Q : Option Value → mr_h → Prop), mr_wp 76 24 [v0, v1, v2, v3] (.int y :: .int x :: st) h Q = if x = y then mr_wp 76 42 [v0, v1, v2, v3] st h Q else mr_wp 76 27 [v0, v1, v2, v3] st h Q) ∧
    (∀ (v1 v2 v3 : Value) (x : Nat) (st : List Value) (h : mr_h) (Q : Option Value → mr_h → Prop), mr_wp 76 27 [.ref x, v1, v2, v3] st h Q = mr_wp 76 28 [.ref x, v1, v2, v3] (.ref x :: st) h Q) ∧
    (∀ (v0 v1 v2 v3 : Value) (a : Nat) (st : List Value) (h : mr_h) (Q : Option Value → mr_h → Prop), mr_wp 76 28 [v0, v1, v2, v3] (.ref a :: st) h Q = mr_gf (h.1 a) 6 5 (fun v => mr_wp 76 31 [v0, v1, v2, v3] (v :: st) h Q)) ∧
    (∀ (v0 v1 v2 : Value) (x : Int32) (st : List Value) (h : mr_h) (Q : Option Value → mr_h → Prop), mr_wp 76 31 [v0, v1, v2, .int x] st h Q = mr_wp 76 32 [v0, v1, v2, .int x] (.int x :: st) h Q) ∧
    (∀ (v0 v1 v2 v3 : Value) (a : Nat) (x : Int32) (st : List Value) (h : mr_h) (Q : Option Value → mr_h → Prop), mr_wp 76 32 [v0, v1, v2, v3] (.int x :: .ref a :: st) h Q = mr_ai (h.1 a) x (fun v => mr_wp 76 33 [v0, v1, v2, v3] (.int v :: st) h Q)) ∧
    (∀ (v1 v2 v3 : Value) (x : Nat) (st : List Value) (h : mr_h) (Q : Option Value → mr_h → Prop), mr_wp 76 33 [.ref x, v1, v2, v3] st h Q = mr_wp 76 34 [.ref x, v1, v2, v3] (.ref x :: st) h Q) ∧
    (∀ (v0 v1 v2 v3 : Value) (a : Nat) (st : List Value) (h : mr_h) (Q : Option Value → mr_h → Prop), mr_wp 76 34 [v0, v1, v2, v3] (.ref a :: st) h Q = mr_gf (h.1 a) 6 5 (fun v => mr_wp 76 37 [v0, v1, v2, v3] (v :: st) h Q)) ∧
    (∀ (v0 v1 v3 : Value) (x : Int32) (st : List Value) (h : mr_h) (Q : Option Value → mr_h → Prop), mr_wp 76 37 [v0, v1, .int x, v3] st h Q = mr_wp 76 38 [v0, v1, .int x, v3] (.int x :: st) h Q) ∧
    (∀ (v0 v1 v2 v3 : Value) (a : Nat) (x : Int32) (st : List Value) (h : mr_h) (Q : Option Value → mr_h → Prop), mr_wp 76 38 [v0, v1, v2, v3] (.int x :: .ref a :: st) h Q = mr_ai (h.1 a) x (fun v => mr_wp 76 39 [v0, v1, v2, v3] (.int v :: st) h Q)) ∧
    (∀ (v0 v1 v2 v3 : Value) (x : Int32) (y : Int32) (st : List Value) (h : mr_h) (Q : Option Value → mr_h → Prop), mr_wp 76 39 [v0, v1, v2, v3] (.int y :: .int x :: st) h Q = if y ≤ x then mr_wp 76 44 [v0, v1, v2, v3] st h Q else mr_wp 76 42 [v0, v1, v2, v3] st h Q) ∧
    (∀ (v0 v1 v2 : Value) (x : Int32) (st : List Value) (h : mr_h) (Q : Option Value → mr_h → Prop), mr_wp 76 42 [v0, v1, v2, .int x] st h Q = mr_wp 76 43 [v0, v1, v2, .int x] (.int x :: st) h Q) ∧
    (∀ (v0 v2 v3 : Value) (w1 : Int32) (x : Int32) (st : List Value) (h : mr_h) (Q : Option Value → mr_h → Prop), mr_wp 76 43 [v0, .int w1, v2, v3] (.int x :: st) h Q = mr_wp 76 44 [v0, .int w1, .int x, v3] st h Q) ∧
    (∀ (v0 v1 : Value) (x : Int32) (w2 : Int32) (st : List Value) (h : mr_h) (Q : Option Value → mr_h → Prop), mr_wp 76 44 [v0, v1, .int w2, .int x] st h Q = mr_wp 76 47 [v0, v1, .int w2, .int (x + (1))] st h Q) ∧
    (∀ (v0 v1 v2 v3 : Value) (st : List Value) (h : mr_h) (Q : Option Value → mr_h → Prop), mr_wp 76 47 [v0, v1, v2, v3] st h Q = mr_wp 76 5 [v0, v1, v2, v3] st h Q) ∧
    (∀ (v0 v1 v3 : Value) (x : Int32) (st : List Value) (h : mr_h) (Q : Option Value → mr_h → Prop), mr_wp 76 50 [v0, v1, .int x, v3] st h Q = mr_wp 76 51 [v0, v1, .int x, v3] (.int x :: st) h Q) ∧
    (∀ (v0 v1 v2 v3 : Value) (x : Int32) (h : mr_h) (Q : Option Value → mr_h → Prop), mr_wp 76 51 [v0, v1, v2, v3] [.int x] h Q = Q (some (.int x)) h) :=
  ⟨fun v0 v1 v2 v3 st h Q => gx_one (i := .bipush (-9)) (len := 2) (by decide +kernel) rfl,
   fun v0 v2 v3 w1 x st h Q => gx_one (i := .istore_n 2) (len := 1) (by decide +kernel) rfl,
   fun v0 v1 v2 v3 st h Q => gx_one (i := .iconst 0) (len := 1) (by decide +kernel) rfl,
   fun v0 v1 v3 w2 x st h Q => gx_one (i := .istore_n 3) (len := 1) (by decide +kernel) rfl,
   fun v1 v2 v3 x st h Q => gx_one (i := .aload_n 0) (len := 1) (by decide +kernel) rfl,
   fun v0 v1 v2 v3 a st h Q => gx_get (x := 36) (by decide +kernel) (by decide +kernel),
   fun v0 v1 v2 v3 x y st h Q => gx_br (i := .if_icmp .ge 40) (len := 3) (c := .ge) (by decide +kernel) rfl rfl,
   fun v0 v2 v3 x st h Q => gx_one (i := .iload_n 1) (len := 1) (by decide +kernel) rfl,
   fun v0 v1 v2 x st h Q => gx_one (i := .iload_n 3) (len := 1) (by decide +kernel) rfl,
   fun v0 v1 v2 v3 a0 a1 h Q => gx_stat (x := 75) (t := 17) (n := 2) (by decide +kernel) (by decide +kernel) (by decide) (by decide +kernel) rfl (Or.inl (Nat.le_of_ble_eq_true rfl)) (by show _ ≤ mr_mxl 17; rw [show mr_mxl 17 = 2 from by decide +kernel]; exact Nat.le_of_ble_eq_true rfl),
   fun v0 v1 v2 v3 x st h Q => gx_br (i := .ifCond .eq 26) (len := 3) (c := .eq) (by decide +kernel) rfl rfl,
   fun v0 v1 v3 x st h Q => gx_one (i := .iload_n 2) (len := 1) (by decide +kernel) rfl,
   fun v0 v1 v2 v3 st h Q => gx_one (i := .bipush (-9)) (len := 2) (by decide +kernel) rfl,
   fun v0 v1 v2 v3 x y st h Q => gx_br (i := .if_icmp .eq 18) (len := 3) (c := .eq) (by decide +kernel) rfl rfl,
   fun v1 v2 v3 x st h Q => gx_one (i := .aload_n 0) (len := 1) (by decide +kernel) rfl,
   fun v0 v1 v2 v3 a st h Q => gx_get (x := 27) (by decide +kernel) (by decide +kernel),
   fun v0 v1 v2 x st h Q => gx_one (i := .iload_n 3) (len := 1) (by decide +kernel) rfl,
   fun v0 v1 v2 v3 a x st h Q => gx_iald (by decide +kernel),
   fun v1 v2 v3 x st h Q => gx_one (i := .aload_n 0) (len := 1) (by decide +kernel) rfl,
   fun v0 v1 v2 v3 a st h Q => gx_get (x := 27) (by decide +kernel) (by decide +kernel),
   fun v0 v1 v3 x st h Q => gx_one (i := .iload_n 2) (len := 1) (by decide +kernel) rfl,
   fun v0 v1 v2 v3 a x st h Q => gx_iald (by decide +kernel),
   fun v0 v1 v2 v3 x y st h Q => gx_br (i := .if_icmp .ge 5) (len := 3) (c := .ge) (by decide +kernel) rfl rfl,
   fun v0 v1 v2 x st h Q => gx_one (i := .iload_n 3) (len := 1) (by decide +kernel) rfl,
   fun v0 v2 v3 w1 x st h Q => gx_one (i := .istore_n 2) (len := 1) (by decide +kernel) rfl,
   fun v0 v1 x w2 st h Q => gx_one (i := .iinc 3 1) (len := 3) (by decide +kernel) rfl,
   fun v0 v1 v2 v3 st h Q => gx_one (i := .goto (-42)) (len := 3) (by decide +kernel) rfl,
   fun v0 v1 v3 x st h Q => gx_one (i := .iload_n 2) (len := 1) (by decide +kernel) rfl,
   fun v0 v1 v2 v3 x h Q => gx_ret (i := .ireturn) (len := 1) (by decide +kernel) rfl rfl (by simp only [mr_rt, if_pos]; rw [if_pos (Or.inl (by decide +kernel))])⟩
theorem S_rl_way : (∀ (v1 v2 v3 v4 : Value) (x : Nat) (st : List Value) (h : mr_h) (Q : Option Value → mr_h → Prop), mr_wp 77 0 [.ref x, v1, v2, v3, v4] st h Q = mr_wp 77 1 [.ref x, v1, v2, v3, v4] (.ref x :: st) h Q) ∧
    (∀ (v0 v2 v3 v4 : Value) (x : Int32) (st : List Value) (h : mr_h) (Q : Option Value → mr_h → Prop), mr_wp 77 1 [v0, .int x, v2, v3, v4] st h Q = mr_wp 77 2 [v0, .int x, v2, v3, v4] (.int x :: st) h Q) ∧
    (∀ (v0 v1 v3 v4 : Value) (x : Int32) (st : List Value) (h : mr_h) (Q : Option Value → mr_h → Prop), mr_wp 77 2 [v0, v1, .int x, v3, v4] st h Q = mr_wp 77 3 [v0, v1, .int x, v3, v4] (.int x :: st) h Q) ∧
    (∀ (v0 v1 v2 v3 v4 : Value) (a0 : Int32) (a1 : Int32) (o : Nat) (h : mr_h) (Q : Option Value → mr_h → Prop), mr_wp 77 3 [v0, v1, v2, v3, v4] [.int a1, .int a0, .ref o] h Q = mr_rc (h.1 o) 10 (mr_run 47 [.ref o, .int a0, .int a1] h (fun v h' => mr_wp 77 6 [v0, v1, v2, v3, v4] (v.toList ++ []) h' Q))) ∧
    (∀ (v0 v1 v2 v3 v4 : Value) (x : Int32) (st : List Value) (h : mr_h) (Q : Option Value → mr_h → Prop), mr_wp 77 6 [v0, v1, v2, v3, v4] (.int x :: st) h Q = if x = 0 then mr_wp 77 14 [v0, v1, v2, v3, v4] st h Q else mr_wp 77 9 [v0, v1, v2, v3, v4] st h Q) ∧
    (∀ (v0 v1 v2 v4 : Value) (x : Int32) (st : List Value) (h : mr_h) (Q : Option Value → mr_h → Prop), mr_wp 77 9 [v0, v1, v2, .int x, v4] st h Q = mr_wp 77 10 [v0, v1, v2, .int x, v4] (.int x :: st) h Q) ∧
    (∀ (v0 v1 v2 v3 v4 : Value) (st : List Value) (h : mr_h) (Q : Option Value → mr_h → Prop), mr_wp 77 10 [v0, v1, v2, v3, v4] st h Q = mr_wp 77 11 [v0, v1, v2, v3, v4] (.int (-1) :: st) h Q) ∧
    (∀ (v0 v1 v2 v3 v4 : Value) (x : Int32) (y : Int32) (st : List Value) (h : mr_h) (Q : Option Value → mr_h → Prop), mr_wp 77 11 [v0, v1, v2, v3, v4] (.int y :: .int x :: st) h Q = if y ≤ x then mr_wp 77 16 [v0, v1, v2, v3, v4] st h Q else mr_wp 77 14 [v0, v1, v2, v3, v4] st h Q) ∧
    (∀ (v0 v1 v2 v3 v4 : Value) (st : List Value) (h : mr_h) (Q : Option Value → mr_h → Prop), mr_wp 77 14 [v0, v1, v2, v3, v4] st h Q = mr_wp 77 15 [v0, v1, v2, v3, v4] (.int (-1) :: st) h Q) ∧
    (∀ (v0 v1 v2 v3 v4 : Value) (x : Int32) (h : mr_h) (Q : Option Value → mr_h → Prop), mr_wp 77 15 [v0, v1, v2, v3, v4] [.int x] h Q = Q (some (.int x)) h) ∧
    (∀ (v1 v2 v3 v4 : Value) (x : Nat) (st : List Value) (h : mr_h) (Q : Option Value → mr_h → Prop), mr_wp 77 16 [.ref x, v1, v2, v3, v4] st h Q = mr_wp 77 17 [.ref x, v1, v2, v3, v4] (.ref x :: st) h Q) ∧
    (∀ (v0 v1 v2 v3 v4 : Value) (a : Nat) (st : List Value) (h : mr_h) (Q : Option Value → mr_h → Prop), mr_wp 77 17 [v0, v1, v2, v3, v4] (.ref a :: st) h Q = mr_gf (h.1 a) 10 5 (fun v => mr_wp 77 20 [v0, v1, v2, v3, v4] (v :: st) h Q)) ∧
    (∀ (v1 v2 v3 v4 : Value) (x : Nat) (st : List Value) (h : mr_h) (Q : Option Value → mr_h → Prop), mr_wp 77 20 [.ref x, v1, v2, v3, v4] st h Q = mr_wp 77 21 [.ref x, v1, v2, v3, v4] (.ref x :: st) h Q) ∧
    (∀ (v0 v1 v2 v3 v4 : Value) (a : Nat) (st : List Value) (h : mr_h) (Q : Option Value → mr_h → Prop), mr_wp 77 21 [v0, v1, v2, v3, v4] (.ref a :: st) h Q = mr_gf (h.1 a) 10 0 (fun v => mr_wp 77 24 [v0, v1, v2, v3, v4] (v :: st) h Q)) ∧
    (∀ (v0 v2 v3 v4 : Value) (x : Int32) (st : List Value) (h : mr_h) (Q : Option Value → mr_h → Prop), mr_wp 77 24 [v0, .int x, v2, v3, v4] st h Q = mr_wp 77 25 [v0, .int x, v2, v3, v4] (.int x :: st) h Q) ∧
    (∀ (v0 v1 v3 v4 : Value) (x : Int32) (st : List Value) (h : mr_h) (Q : Option Value → mr_h → Prop), mr_wp 77 25 [v0, v1, .int x, v3, v4] st h Q = mr_wp 77 26 [v0, v1, .int x, v3, v4] (.int x :: st) h Q) ∧
    (∀ (v0 v1 v2 v3 v4 : Value) (a0 : Nat) (a1 : Int32) (a2 : Int32) (o : Nat) (h : mr_h) (Q : Option Value → mr_h → Prop), mr_wp 77 26 [v0, v1, v2, v3, v4] [.int a2, .int a1, .ref a0, .ref o] h Q = mr_rc (h.1 o) 9 (mr_run 78 [.ref o, .ref a0, .int a1, .int a2] h (fun v h' => mr_wp 77 29 [v0, v1, v2, v3, v4] (v.toList ++ []) h' Q))) ∧
    (∀ (v0 v1 v2 v4 : Value) (w3 : Int32) (x : Int32) (st : List Value) (h : mr_h) (Q : Option Value → mr_h → Prop), mr_wp 77 29 [v0, v1, v2, .int w3, v4] (.int x :: st) h Q = mr_wp 77 31 [v0, v1, v2, .int w3, .int x] st h Q) ∧
    (∀ (v0 v1 v2 v3 : Value) (x : Int32) (st : List Value) (h : mr_h) (Q : Option Value → mr_h → Prop), mr_wp 77 31 [v0, v1, v2, v3, .int x] st h Q = mr_wp 77 33 [v0, v1, v2, v3, .int x] (.int x :: st) h Q) ∧
    (∀ (v0 v1 v2 v3 v4 : Value) (x : Int32) (st : List Value) (h : mr_h) (Q : Option Value → mr_h → Prop), mr_wp 77 33 [v0, v1, v2, v3, v4] (.int x :: st) h Q = if x < 0 then mr_wp 77 42 [v0, v1, v2, v3, v4] st h Q else mr_wp 77 36 [v0, v1, v2, v3, v4] st h Q) ∧
    (∀ (v0 v1 v2 v4 : Value) (x : Int32) (st : List Value) (h : mr_h) (Q : Option Value → mr_h → Prop), mr_wp 77 36 [v0, v1, v2, .int x, v4] st h Q = mr_wp 77 37 [v0, v1, v2, .int x, v4] (.int x :: st) h Q) ∧
    (∀ (v0 v1 v2 v3 : Value) (x : Int32) (st : List Value) (h : mr_h) (Q : Option Value → mr_h → Prop), mr_wp 77 37 [v0, v1, v2, v3, .int x] st h Q = mr_wp 77 39 [v0, v1, v2, v3, .int x] (.int x :: st) h Q) ∧
    (∀ (v0 v1 v2 v3 v4 : Value) (x : Int32) (y : Int32) (st : List Value) (h : mr_h) (Q : Option Value → mr_h → Prop), mr_wp 77 39 [v0, v1, v2, v3, v4] (.int y :: .int x :: st) h Q = if x ≤ y then mr_wp 77 45 [v0, v1, v2, v3, v4] st h Q else mr_wp 77 42 [v0, v1, v2, v3, v4] st h Q) ∧
    (∀ (v0 v1 v2 v3 v4 : Value) (st : List Value) (h : mr_h) (Q : Option Value → mr_h → Prop), mr_wp 77 42 [v0, v1, v2, v3, v4] st h Q = mr_wp 77 44 [v0, v1, v2, v3, v4] (.int (-9) :: st) h Q) ∧
    (∀ (v0 v1 v2 v3 v4 : Value) (x : Int32) (h : mr_h) (Q : Option Value → mr_h → Prop), mr_wp 77 44 [v0, v1, v2, v3, v4] [.int x] h Q = Q (some (.int x)) h) ∧
    (∀ (v0 v1 v2 v4 : Value) (x : Int32) (st : List Value) (h : mr_h) (Q : Option Value → mr_h → Prop), mr_wp 77 45 [v0, v1, v2, .int x, v4] st h Q = mr_wp 77 46 [v0, v1, v2, .int x, v4] (.int x :: st) h Q) ∧
    (∀ (v0 v1 v2 v3 v4 : Value) (st : List Value) (h : mr_h) (Q : Option Value → mr_h → Prop), mr_wp 77 46 [v0, v1, v2, v3, v4] st h Q = mr_wp 77 47 [v0, v1, v2, v3, v4] (.int (-1) :: st) h Q) ∧
    (∀ (v0 v1 v2 v3 v4 : Value) (x : Int32) (y : Int32) (st : List Value) (h : mr_h) (Q : Option Value → mr_h → Prop), mr_wp 77 47 [v0, v1, v2, v3, v4] (.int y :: .int x :: st) h Q = if ¬ x = y then mr_wp 77 55 [v0, v1, v2, v3, v4] st h Q else mr_wp 77 50 [v0, v1, v2, v3, v4] st h Q) ∧
    (∀ (v0 v1 v2 v3 : Value) (x : Int32) (st : List Value) (h : mr_h) (Q : Option Value → mr_h → Prop), mr_wp 77 50 [v0, v1, v2, v3, .int x] st h Q = mr_wp 77 52 [v0, v1, v2, v3, .int x] (.int x :: st) h Q) ∧
    (∀ (v0 v1 v2 v3 v4 : Value) (st : List Value) (h : mr_h) (Q : Option Value → mr_h → Prop), mr_wp 77 52 [v0, v1, v2, v3, v4] st h Q = mr_wp 77 70 [v0, v1, v2, v3, v4] st h Q) ∧
    (∀ (v1 v2 v3 v4 : Value) (x : Nat) (st : List Value) (h : mr_h) (Q : Option Value → mr_h → Prop), mr_wp 77 55 [.ref x, v1, v2, v3, v4] st h Q = mr_wp 77 56 [.ref x, v1, v2, v3, v4] (.ref x :: st) h Q) ∧
    (∀ (v0 v1 v2 v3 v4 : Value) (a : Nat) (st : List Value) (h : mr_h) (Q : Option Value → mr_h → Prop), mr_wp 77 56 [v0, v1, v2, v3, v4] (.ref a :: st) h Q = mr_gf (h.1 a) 10 5 (fun v => mr_wp 77 59 [v0, v1, v2, v3, v4] (v :: st) h Q)) ∧
    (∀ (v1 v2 v3 v4 : Value) (x : Nat) (st : List Value) (h : mr_h) (Q : Option Value → mr_h → Prop), mr_wp 77 59 [.ref x, v1, v2, v3, v4] st h Q = mr_wp 77 60 [.ref x, v1, v2, v3, v4] (.ref x :: st) h Q) ∧
    (∀ (v0 v1 v2 v3 v4 : Value) (a : Nat) (st : List Value) (h : mr_h) (Q : Option Value → mr_h → Prop), mr_wp 77 60 [v0, v1, v2, v3, v4] (.ref a :: st) h Q = mr_gf (h.1 a) 10 0 (fun v => mr_wp 77 63 [v0, v1, v2, v3, v4] (v :: st) h Q)) ∧
    (∀ (v0 v2 v3 v4 : Value) (x : Int32) (st : List Value) (h : mr_h) (Q : Option Value → mr_h → Prop), mr_wp 77 63 [v0, .int x, v2, v3, v4] st h Q = mr_wp 77 64 [v0, .int x, v2, v3, v4] (.int x :: st) h Q) ∧
    (∀ (v0 v1 v2 v3 : Value) (x : Int32) (st : List Value) (h : mr_h) (Q : Option Value → mr_h → Prop), mr_wp 77 64 [v0, v1, v2, v3, .int x] st h Q = mr_wp 77 66 [v0, v1, v2, v3, .int x] (.int x :: st) h Q) ∧
    (∀ (v0 v1 v2 v4 : Value) (x : Int32) (st : List Value) (h : mr_h) (Q : Option Value → mr_h → Prop), mr_wp 77 66 [v0, v1, v2, .int x, v4] st h Q = mr_wp 77 67 [v0, v1, v2, .int x, v4] (.int x :: st) h Q) ∧
    (∀ (v0 v1 v2 v3 v4 : Value) (a0 : Nat) (a1 : Int32) (a2 : Int32) (a3 : Int32) (o : Nat) (h : mr_h) (Q : Option Value → mr_h → Prop), mr_wp 77 67 [v0, v1, v2, v3, v4] [.int a3, .int a2, .int a1, .ref a0, .ref o] h Q = mr_rc (h.1 o) 9 (mr_run 80 [.ref o, .ref a0, .int a1, .int a2, .int a3] h (fun v h' => mr_wp 77 70 [v0, v1, v2, v3, v4] (v.toList ++ []) h' Q))) ∧
    (∀ (v0 v1 v2 v3 v4 : Value) (x : Int32) (h : mr_h) (Q : Option Value → mr_h → Prop), mr_wp 77 70 [v0, v1, v2, v3, v4] [.int x] h Q = Q (some (.int x)) h) :=
  ⟨fun v1 v2 v3 v4 x st h Q => gx_one (i := .aload_n 0) (len := 1) (by decide +kernel) rfl,
   fun v0 v2 v3 v4 x st h Q => gx_one (i := .iload_n 1) (len := 1) (by decide +kernel) rfl,
   fun v0 v1 v3 v4 x st h Q => gx_one (i := .iload_n 2) (len := 1) (by decide +kernel) rfl,
   fun v0 v1 v2 v3 v4 a0 a1 o h Q => gx_virt (x := 182) (n := 2) (by decide +kernel) (by decide +kernel) rfl (Or.inl (Nat.le_of_ble_eq_true rfl)) (by show _ ≤ mr_mxl 47; rw [show mr_mxl 47 = 3 from by decide +kernel]; exact Nat.le_of_ble_eq_true rfl) (by decide +kernel),
   fun v0 v1 v2 v3 v4 x st h Q => gx_br (i := .ifCond .eq 8) (len := 3) (c := .eq) (by decide +kernel) rfl rfl,
   fun v0 v1 v2 v4 x st h Q => gx_one (i := .iload_n 3) (len := 1) (by decide +kernel) rfl,
   fun v0 v1 v2 v3 v4 st h Q => gx_one (i := .iconst (-1)) (len := 1) (by decide +kernel) rfl,
   fun v0 v1 v2 v3 v4 x y st h Q => gx_br (i := .if_icmp .ge 5) (len := 3) (c := .ge) (by decide +kernel) rfl rfl,
   fun v0 v1 v2 v3 v4 st h Q => gx_one (i := .iconst (-1)) (len := 1) (by decide +kernel) rfl,
   fun v0 v1 v2 v3 v4 x h Q => gx_ret (i := .ireturn) (len := 1) (by decide +kernel) rfl rfl (by simp only [mr_rt, if_pos]; rw [if_pos (Or.inl (by decide +kernel))]),
   fun v1 v2 v3 v4 x st h Q => gx_one (i := .aload_n 0) (len := 1) (by decide +kernel) rfl,
   fun v0 v1 v2 v3 v4 a st h Q => gx_get (x := 43) (by decide +kernel) (by decide +kernel),
   fun v1 v2 v3 v4 x st h Q => gx_one (i := .aload_n 0) (len := 1) (by decide +kernel) rfl,
   fun v0 v1 v2 v3 v4 a st h Q => gx_get (x := 10) (by decide +kernel) (by decide +kernel),
   fun v0 v2 v3 v4 x st h Q => gx_one (i := .iload_n 1) (len := 1) (by decide +kernel) rfl,
   fun v0 v1 v3 v4 x st h Q => gx_one (i := .iload_n 2) (len := 1) (by decide +kernel) rfl,
   fun v0 v1 v2 v3 v4 a0 a1 a2 o h Q => gx_virt (x := 188) (n := 3) (by decide +kernel) (by decide +kernel) rfl (Or.inl (Nat.le_of_ble_eq_true rfl)) (by show _ ≤ mr_mxl 78; rw [show mr_mxl 78 = 6 from by decide +kernel]; exact Nat.le_of_ble_eq_true rfl) (by decide +kernel),
   fun v0 v1 v2 v4 w3 x st h Q => gx_one (i := .istore 4) (len := 2) (by decide +kernel) rfl,
   fun v0 v1 v2 v3 x st h Q => gx_one (i := .iload 4) (len := 2) (by decide +kernel) rfl,
   fun v0 v1 v2 v3 v4 x st h Q => gx_br (i := .ifCond .lt 9) (len := 3) (c := .lt) (by decide +kernel) rfl rfl,
   fun v0 v1 v2 v4 x st h Q => gx_one (i := .iload_n 3) (len := 1) (by decide +kernel) rfl,
   fun v0 v1 v2 v3 x st h Q => gx_one (i := .iload 4) (len := 2) (by decide +kernel) rfl,
   fun v0 v1 v2 v3 v4 x y st h Q => gx_br (i := .if_icmp .le 6) (len := 3) (c := .le) (by decide +kernel) rfl rfl,
   fun v0 v1 v2 v3 v4 st h Q => gx_one (i := .bipush (-9)) (len := 2) (by decide +kernel) rfl,
   fun v0 v1 v2 v3 v4 x h Q => gx_ret (i := .ireturn) (len := 1) (by decide +kernel) rfl rfl (by simp only [mr_rt, if_pos]; rw [if_pos (Or.inl (by decide +kernel))]),
   fun v0 v1 v2 v4 x st h Q => gx_one (i := .iload_n 3) (len := 1) (by decide +kernel) rfl,
   fun v0 v1 v2 v3 v4 st h Q => gx_one (i := .iconst (-1)) (len := 1) (by decide +kernel) rfl,
   fun v0 v1 v2 v3 v4 x y st h Q => gx_br (i := .if_icmp .ne 8) (len := 3) (c := .ne) (by decide +kernel) rfl rfl,
   fun v0 v1 v2 v3 x st h Q => gx_one (i := .iload 4) (len := 2) (by decide +kernel) rfl,
   fun v0 v1 v2 v3 v4 st h Q => gx_one (i := .goto 18) (len := 3) (by decide +kernel) rfl,
   fun v1 v2 v3 v4 x st h Q => gx_one (i := .aload_n 0) (len := 1) (by decide +kernel) rfl,
   fun v0 v1 v2 v3 v4 a st h Q => gx_get (x := 43) (by decide +kernel) (by decide +kernel),
   fun v1 v2 v3 v4 x st h Q => gx_one (i := .aload_n 0) (len := 1) (by decide +kernel) rfl,
   fun v0 v1 v2 v3 v4 a st h Q => gx_get (x := 10) (by decide +kernel) (by decide +kernel),
   fun v0 v2 v3 v4 x st h Q => gx_one (i := .iload_n 1) (len := 1) (by decide +kernel) rfl,
   fun v0 v1 v2 v3 x st h Q => gx_one (i := .iload 4) (len := 2) (by decide +kernel) rfl,
   fun v0 v1 v2 v4 x st h Q => gx_one (i := .iload_n 3) (len := 1) (by decide +kernel) rfl,
   fun v0 v1 v2 v3 v4 a0 a1 a2 a3 o h Q => gx_virt (x := 192) (n := 4) (by decide +kernel) (by decide +kernel) rfl (Or.inl (Nat.le_of_ble_eq_true rfl)) (by show _ ≤ mr_mxl 80; rw [show mr_mxl 80 = 7 from by decide +kernel]; exact Nat.le_of_ble_eq_true rfl) (by decide +kernel),
   fun v0 v1 v2 v3 v4 x h Q => gx_ret (i := .ireturn) (len := 1) (by decide +kernel) rfl rfl (by simp only [mr_rt, if_pos]; rw [if_pos (Or.inl (by decide +kernel))])⟩
theorem s_wa_shortest_9 (v0 v1 v2 v3 v4 : Value) (x : Int32) (st : List Value) (h : mr_h) (Q : Option Value → mr_h → Prop) : mr_wp 78 9 [v0, v1, v2, v3, v4, .int x] st h Q = mr_wp 78 11 [v0, v1, v2, v3, v4, .int x] (.int x :: st) h Q := gx_one (i := .iload 5) (len := 2) (by decide +kernel) rfl
theorem S_wa_shortest : (∀ (v0 v1 v2 v4 v5 : Value) (x : Int32) (st : List Value) (h : mr_h) (Q : Option Value → mr_h → Prop), mr_wp 78 0 [v0, v1, v2, .int x, v4, v5] st h Q = mr_wp 78 1 [v0, v1, v2, .int x, v4, v5] (.int x :: st) h Q) ∧
    (∀ (v0 v1 v2 v3 v4 v5 : Value) (a0 : Int32) (h : mr_h) (Q : Option Value → mr_h → Prop), mr_wp 78 1 [v0, v1, v2, v3, v4, v5] [.int a0] h Q = mr_run 16 [.int a0] h (fun v h' => mr_wp 78 4 [v0, v1, v2, v3, v4, v5] (v.toList ++ []) h' Q)) ∧
    (∀ (v0 v1 v2 v4 v5 : Value) (w3 : Int32) (x : Int32) (st : List Value) (h : mr_h) (Q : Option Value → mr_h → Prop), mr_wp 78 4 [v0, v1, v2, .int w3, v4, v5] (.int x :: st) h Q = mr_wp 78 6 [v0, v1, v2, .int w3, .int x, v5] st h Q) ∧
    (∀ (v0 v1 v2 v3 v4 v5 : Value) (st : List Value) (h : mr_h) (Q : Option Value → mr_h → Prop), mr_wp 78 6 [v0, v1, v2, v3, v4, v5] st h Q = mr_wp 78 7 [v0, v1, v2, v3, v4, v5] (.int (0) :: st) h Q) ∧
    (∀ (v0 v1 v2 v3 v5 : Value) (w4 : Int32) (x : Int32) (st : List Value) (h : mr_h) (Q : Option Value → mr_h → Prop), mr_wp 78 7 [v0, v1, v2, v3, .int w4, v5] (.int x :: st) h Q = mr_wp 78 9 [v0, v1, v2, v3, .int w4, .int x] st h Q) ∧
    (∀ (v0 v2 v3 v4 v5 : Value) (x : Nat) (st : List Value) (h : mr_h) (Q : Option Value → mr_h → Prop), mr_wp 78 11 [v0, .ref x, v2, v3, v4, v5] st h Q = mr_wp 78 12 [v0, .ref x, v2, v3, v4, v5] (.ref x :: st) h Q) ∧
    (∀ (v0 v1 v2 v3 v4 v5 : Value) (a : Nat) (st : List Value) (h : mr_h) (Q : Option Value → mr_h → Prop), mr_wp 78 12 [v0, v1, v2, v3, v4, v5] (.ref a :: st) h Q = mr_gf (h.1 a) 3 0 (fun v => mr_wp 78 15 [v0, v1, v2, v3, v4, v5] (v :: st) h Q)) ∧
    (∀ (v0 v1 v2 v3 v4 v5 : Value) (x : Int32) (y : Int32) (st : List Value) (h : mr_h) (Q : Option Value → mr_h → Prop), mr_wp 78 15 [v0, v1, v2, v3, v4, v5] (.int y :: .int x :: st) h Q = if y ≤ x then mr_wp 78 53 [v0, v1, v2, v3, v4, v5] st h Q else mr_wp 78 18 [v0, v1, v2, v3, v4, v5] st h Q) ∧
    (∀ (v1 v2 v3 v4 v5 : Value) (x : Nat) (st : List Value) (h : mr_h) (Q : Option Value → mr_h → Prop), mr_wp 78 18 [.ref x, v1, v2, v3, v4, v5] st h Q = mr_wp 78 19 [.ref x, v1, v2, v3, v4, v5] (.ref x :: st) h Q) ∧
    (∀ (v0 v1 v2 v3 v4 v5 : Value) (a : Nat) (st : List Value) (h : mr_h) (Q : Option Value → mr_h → Prop), mr_wp 78 19 [v0, v1, v2, v3, v4, v5] (.ref a :: st) h Q = mr_gf (h.1 a) 9 0 (fun v => mr_wp 78 22 [v0, v1, v2, v3, v4, v5] (v :: st) h Q)) ∧
    (∀ (v0 v1 v2 v3 v4 : Value) (x : Int32) (st : List Value) (h : mr_h) (Q : Option Value → mr_h → Prop), mr_wp 78 22 [v0, v1, v2, v3, v4, .int x] st h Q = mr_wp 78 24 [v0, v1, v2, v3, v4, .int x] (.int x :: st) h Q) ∧
    (∀ (v0 v1 v2 v3 v5 : Value) (x : Int32) (st : List Value) (h : mr_h) (Q : Option Value → mr_h → Prop), mr_wp 78 24 [v0, v1, v2, v3, .int x, v5] st h Q = mr_wp 78 26 [v0, v1, v2, v3, .int x, v5] (.int x :: st) h Q) ∧
    (∀ (v0 v1 v2 v3 v4 v5 : Value) (a : Nat) (x : Int32) (y : Int32) (st : List Value) (h : mr_h) (Q : Option Value → mr_h → Prop), mr_wp 78 26 [v0, v1, v2, v3, v4, v5] (.int y :: .int x :: .ref a :: st) h Q = mr_si (h.1 a) x y (fun c => mr_wp 78 27 [v0, v1, v2, v3, v4, v5] st (mr_up h a c) Q)) ∧
    (∀ (v0 v1 v2 v3 v5 : Value) (x : Int32) (st : List Value) (h : mr_h) (Q : Option Value → mr_h → Prop), mr_wp 78 27 [v0, v1, v2, v3, .int x, v5] st h Q = mr_wp 78 29 [v0, v1, v2, v3, .int x, v5] (.int x :: st) h Q) ∧
    (∀ (v0 v1 v3 v4 v5 : Value) (x : Int32) (st : List Value) (h : mr_h) (Q : Option Value → mr_h → Prop), mr_wp 78 29 [v0, v1, .int x, v3, v4, v5] st h Q = mr_wp 78 30 [v0, v1, .int x, v3, v4, v5] (.int x :: st) h Q) ∧
    (∀ (v0 v1 v2 v3 v4 v5 : Value) (a0 : Int32) (a1 : Int32) (h : mr_h) (Q : Option Value → mr_h → Prop), mr_wp 78 30 [v0, v1, v2, v3, v4, v5] [.int a1, .int a0] h Q = mr_run 17 [.int a0, .int a1] h (fun v h' => mr_wp 78 33 [v0, v1, v2, v3, v4, v5] (v.toList ++ []) h' Q)) ∧
    (∀ (v0 v1 v2 v3 v4 v5 : Value) (x : Int32) (st : List Value) (h : mr_h) (Q : Option Value → mr_h → Prop), mr_wp 78 33 [v0, v1, v2, v3, v4, v5] (.int x :: st) h Q = if x = 0 then mr_wp 78 39 [v0, v1, v2, v3, v4, v5] st h Q else mr_wp 78 36 [v0, v1, v2, v3, v4, v5] st h Q) ∧
    (∀ (v0 v1 v2 v3 v4 : Value) (x : Int32) (st : List Value) (h : mr_h) (Q : Option Value → mr_h → Prop), mr_wp 78 36 [v0, v1, v2, v3, v4, .int x] st h Q = mr_wp 78 38 [v0, v1, v2, v3, v4, .int x] (.int x :: st) h Q) ∧
    (∀ (v0 v1 v2 v3 v4 v5 : Value) (x : Int32) (h : mr_h) (Q : Option Value → mr_h → Prop), mr_wp 78 38 [v0, v1, v2, v3, v4, v5] [.int x] h Q = Q (some (.int x)) h) ∧
    (∀ (v0 v2 v3 v4 v5 : Value) (x : Nat) (st : List Value) (h : mr_h) (Q : Option Value → mr_h → Prop), mr_wp 78 39 [v0, .ref x, v2, v3, v4, v5] st h Q = mr_wp 78 40 [v0, .ref x, v2, v3, v4, v5] (.ref x :: st) h Q) ∧
    (∀ (v0 v1 v2 v3 v5 : Value) (x : Int32) (st : List Value) (h : mr_h) (Q : Option Value → mr_h → Prop), mr_wp 78 40 [v0, v1, v2, v3, .int x, v5] st h Q = mr_wp 78 42 [v0, v1, v2, v3, .int x, v5] (.int x :: st) h Q) ∧
    (∀ (v0 v1 v2 v3 v4 v5 : Value) (a0 : Nat) (a1 : Int32) (h : mr_h) (Q : Option Value → mr_h → Prop), mr_wp 78 42 [v0, v1, v2, v3, v4, v5] [.int a1, .ref a0] h Q = mr_run 79 [.ref a0, .int a1] h (fun v h' => mr_wp 78 45 [v0, v1, v2, v3, v4, v5] (v.toList ++ []) h' Q)) ∧
    (∀ (v0 v1 v2 v4 v5 : Value) (w3 : Int32) (x : Int32) (st : List Value) (h : mr_h) (Q : Option Value → mr_h → Prop), mr_wp 78 45 [v0, v1, v2, .int w3, v4, v5] (.int x :: st) h Q = mr_wp 78 47 [v0, v1, v2, .int w3, .int x, v5] st h Q) ∧
    (∀ (v0 v1 v2 v3 : Value) (x : Int32) (w4 : Int32) (st : List Value) (h : mr_h) (Q : Option Value → mr_h → Prop), mr_wp 78 47 [v0, v1, v2, v3, .int w4, .int x] st h Q = mr_wp 78 50 [v0, v1, v2, v3, .int w4, .int (x + (1))] st h Q) ∧
    (∀ (v0 v1 v2 v3 v4 v5 : Value) (st : List Value) (h : mr_h) (Q : Option Value → mr_h → Prop), mr_wp 78 50 [v0, v1, v2, v3, v4, v5] st h Q = mr_wp 78 9 [v0, v1, v2, v3, v4, v5] st h Q) ∧
    (∀ (v0 v1 v2 v3 v4 v5 : Value) (st : List Value) (h : mr_h) (Q : Option Value → mr_h → Prop), mr_wp 78 53 [v0, v1, v2, v3, v4, v5] st h Q = mr_wp 78 55 [v0, v1, v2, v3, v4, v5] (.int (-9) :: st) h Q) ∧
    (∀ (v0 v1 v2 v3 v4 v5 : Value) (x : Int32) (h : mr_h) (Q : Option Value → mr_h → Prop), mr_wp 78 55 [v0, v1, v2, v3, v4, v5] [.int x] h Q = Q (some (.int x)) h) :=
  ⟨fun v0 v1 v2 v4 v5 x st h Q => gx_one (i := .iload_n 3) (len := 1) (by decide +kernel) rfl,
   fun v0 v1 v2 v3 v4 v5 a0 h Q => gx_stat (x := 15) (t := 16) (n := 1) (by decide +kernel) (by decide +kernel) (by decide) (by decide +kernel) rfl (Or.inl (Nat.le_of_ble_eq_true rfl)) (by show _ ≤ mr_mxl 16; rw [show mr_mxl 16 = 1 from by decide +kernel]; exact Nat.le_of_ble_eq_true rfl),
   fun v0 v1 v2 v4 v5 w3 x st h Q => gx_one (i := .istore 4) (len := 2) (by decide +kernel) rfl,
   fun v0 v1 v2 v3 v4 v5 st h Q => gx_one (i := .iconst 0) (len := 1) (by decide +kernel) rfl,
   fun v0 v1 v2 v3 v5 w4 x st h Q => gx_one (i := .istore 5) (len := 2) (by decide +kernel) rfl,
   fun v0 v2 v3 v4 v5 x st h Q => gx_one (i := .aload_n 1) (len := 1) (by decide +kernel) rfl,
   fun v0 v1 v2 v3 v4 v5 a st h Q => gx_get (x := 19) (by decide +kernel) (by decide +kernel),
   fun v0 v1 v2 v3 v4 v5 x y st h Q => gx_br (i := .if_icmp .ge 38) (len := 3) (c := .ge) (by decide +kernel) rfl rfl,
   fun v1 v2 v3 v4 v5 x st h Q => gx_one (i := .aload_n 0) (len := 1) (by decide +kernel) rfl,
   fun v0 v1 v2 v3 v4 v5 a st h Q => gx_get (x := 9) (by decide +kernel) (by decide +kernel),
   fun v0 v1 v2 v3 v4 x st h Q => gx_one (i := .iload 5) (len := 2) (by decide +kernel) rfl,
   fun v0 v1 v2 v3 v5 x st h Q => gx_one (i := .iload 4) (len := 2) (by decide +kernel) rfl,
   fun v0 v1 v2 v3 v4 v5 a x y st h Q => gx_iast (by decide +kernel),
   fun v0 v1 v2 v3 v5 x st h Q => gx_one (i := .iload 4) (len := 2) (by decide +kernel) rfl,
   fun v0 v1 v3 v4 v5 x st h Q => gx_one (i := .iload_n 2) (len := 1) (by decide +kernel) rfl,
   fun v0 v1 v2 v3 v4 v5 a0 a1 h Q => gx_stat (x := 25) (t := 17) (n := 2) (by decide +kernel) (by decide +kernel) (by decide) (by decide +kernel) rfl (Or.inl (Nat.le_of_ble_eq_true rfl)) (by show _ ≤ mr_mxl 17; rw [show mr_mxl 17 = 2 from by decide +kernel]; exact Nat.le_of_ble_eq_true rfl),
   fun v0 v1 v2 v3 v4 v5 x st h Q => gx_br (i := .ifCond .eq 6) (len := 3) (c := .eq) (by decide +kernel) rfl rfl,
   fun v0 v1 v2 v3 v4 x st h Q => gx_one (i := .iload 5) (len := 2) (by decide +kernel) rfl,
   fun v0 v1 v2 v3 v4 v5 x h Q => gx_ret (i := .ireturn) (len := 1) (by decide +kernel) rfl rfl (by simp only [mr_rt, if_pos]; rw [if_pos (Or.inl (by decide +kernel))]),
   fun v0 v2 v3 v4 v5 x st h Q => gx_one (i := .aload_n 1) (len := 1) (by decide +kernel) rfl,
   fun v0 v1 v2 v3 v5 x st h Q => gx_one (i := .iload 4) (len := 2) (by decide +kernel) rfl,
   fun v0 v1 v2 v3 v4 v5 a0 a1 h Q => gx_stat (x := 29) (t := 79) (n := 2) (by decide +kernel) (by decide +kernel) (by decide) (by decide +kernel) rfl (Or.inl (Nat.le_of_ble_eq_true rfl)) (by show _ ≤ mr_mxl 79; rw [show mr_mxl 79 = 4 from by decide +kernel]; exact Nat.le_of_ble_eq_true rfl),
   fun v0 v1 v2 v4 v5 w3 x st h Q => gx_one (i := .istore 4) (len := 2) (by decide +kernel) rfl,
   fun v0 v1 v2 v3 x w4 st h Q => gx_one (i := .iinc 5 1) (len := 3) (by decide +kernel) rfl,
   fun v0 v1 v2 v3 v4 v5 st h Q => gx_one (i := .goto (-41)) (len := 3) (by decide +kernel) rfl,
   fun v0 v1 v2 v3 v4 v5 st h Q => gx_one (i := .bipush (-9)) (len := 2) (by decide +kernel) rfl,
   fun v0 v1 v2 v3 v4 v5 x h Q => gx_ret (i := .ireturn) (len := 1) (by decide +kernel) rfl rfl (by simp only [mr_rt, if_pos]; rw [if_pos (Or.inl (by decide +kernel))])⟩
theorem s_wa_leadingTo_4 (v0 v1 v2 : Value) (x : Int32) (st : List Value) (h : mr_h) (Q : Option Value → mr_h → Prop) : mr_wp 79 4 [v0, v1, v2, .int x] st h Q = mr_wp 79 5 [v0, v1, v2, .int x] (.int x :: st) h Q := gx_one (i := .iload_n 3) (len := 1) (by decide +kernel) rfl
theorem S_wa_leadingTo : (∀ (v0 v1 v2 v3 : Value) (st : List Value) (h : mr_h) (Q : Option Value → mr_h → Prop), mr_wp 79 0 [v0, v1, v2, v3] st h Q = mr_wp 79 1 [v0, v1, v2, v3] (.int (0) :: st) h Q) ∧
    (∀ (v0 v2 v3 : Value) (w1 : Int32) (x : Int32) (st : List Value) (h : mr_h) (Q : Option Value → mr_h → Prop), mr_wp 79 1 [v0, .int w1, v2, v3] (.int x :: st) h Q = mr_wp 79 2 [v0, .int w1, .int x, v3] st h Q) ∧
    (∀ (v0 v1 v2 v3 : Value) (st : List Value) (h : mr_h) (Q : Option Value → mr_h → Prop), mr_wp 79 2 [v0, v1, v2, v3] st h Q = mr_wp 79 3 [v0, v1, v2, v3] (.int (0) :: st) h Q) ∧
    (∀ (v0 v1 v3 : Value) (w2 : Int32) (x : Int32) (st : List Value) (h : mr_h) (Q : Option Value → mr_h → Prop), mr_wp 79 3 [v0, v1, .int w2, v3] (.int x :: st) h Q = mr_wp 79 4 [v0, v1, .int w2, .int x] st h Q) ∧
    (∀ (v1 v2 v3 : Value) (x : Nat) (st : List Value) (h : mr_h) (Q : Option Value → mr_h → Prop), mr_wp 79 5 [.ref x, v1, v2, v3] st h Q = mr_wp 79 6 [.ref x, v1, v2, v3] (.ref x :: st) h Q) ∧
    (∀ (v0 v1 v2 v3 : Value) (a : Nat) (st : List Value) (h : mr_h) (Q : Option Value → mr_h → Prop), mr_wp 79 6 [v0, v1, v2, v3] (.ref a :: st) h Q = mr_gf (h.1 a) 3 0 (fun v => mr_wp 79 9 [v0, v1, v2, v3] (v :: st) h Q)) ∧
    (∀ (v0 v1 v2 v3 : Value) (x : Int32) (y : Int32) (st : List Value) (h : mr_h) (Q : Option Value → mr_h → Prop), mr_wp 79 9 [v0, v1, v2, v3] (.int y :: .int x :: st) h Q = if y ≤ x then mr_wp 79 36 [v0, v1, v2, v3] st h Q else mr_wp 79 12 [v0, v1, v2, v3] st h Q) ∧
    (∀ (v1 v2 v3 : Value) (x : Nat) (st : List Value) (h : mr_h) (Q : Option Value → mr_h → Prop), mr_wp 79 12 [.ref x, v1, v2, v3] st h Q = mr_wp 79 13 [.ref x, v1, v2, v3] (.ref x :: st) h Q) ∧
    (∀ (v0 v1 v2 v3 : Value) (a : Nat) (st : List Value) (h : mr_h) (Q : Option Value → mr_h → Prop), mr_wp 79 13 [v0, v1, v2, v3] (.ref a :: st) h Q = mr_gf (h.1 a) 3 1 (fun v => mr_wp 79 16 [v0, v1, v2, v3] (v :: st) h Q)) ∧
    (∀ (v0 v1 v2 : Value) (x : Int32) (st : List Value) (h : mr_h) (Q : Option Value → mr_h → Prop), mr_wp 79 16 [v0, v1, v2, .int x] st h Q = mr_wp 79 17 [v0, v1, v2, .int x] (.int x :: st) h Q) ∧
    (∀ (v0 v1 v2 v3 : Value) (a : Nat) (x : Int32) (st : List Value) (h : mr_h) (Q : Option Value → mr_h → Prop), mr_wp 79 17 [v0, v1, v2, v3] (.int x :: .ref a :: st) h Q = mr_ai (h.1 a) x (fun v => mr_wp 79 18 [v0, v1, v2, v3] (.int v :: st) h Q)) ∧
    (∀ (v0 v2 v3 : Value) (x : Int32) (st : List Value) (h : mr_h) (Q : Option Value → mr_h → Prop), mr_wp 79 18 [v0, .int x, v2, v3] st h Q = mr_wp 79 19 [v0, .int x, v2, v3] (.int x :: st) h Q) ∧
    (∀ (v0 v1 v2 v3 : Value) (x : Int32) (y : Int32) (st : List Value) (h : mr_h) (Q : Option Value → mr_h → Prop), mr_wp 79 19 [v0, v1, v2, v3] (.int y :: .int x :: st) h Q = mr_wp 79 20 [v0, v1, v2, v3] (.int (x &&& y) :: st) h Q) ∧
    (∀ (v0 v1 v2 v3 : Value) (x : Int32) (st : List Value) (h : mr_h) (Q : Option Value → mr_h → Prop), mr_wp 79 20 [v0, v1, v2, v3] (.int x :: st) h Q = if x = 0 then mr_wp 79 30 [v0, v1, v2, v3] st h Q else mr_wp 79 23 [v0, v1, v2, v3] st h Q) ∧
    (∀ (v0 v1 v3 : Value) (x : Int32) (st : List Value) (h : mr_h) (Q : Option Value → mr_h → Prop), mr_wp 79 23 [v0, v1, .int x, v3] st h Q = mr_wp 79 24 [v0, v1, .int x, v3] (.int x :: st) h Q) ∧
    (∀ (v0 v1 v2 : Value) (x : Int32) (st : List Value) (h : mr_h) (Q : Option Value → mr_h → Prop), mr_wp 79 24 [v0, v1, v2, .int x] st h Q = mr_wp 79 25 [v0, v1, v2, .int x] (.int x :: st) h Q) ∧
    (∀ (v0 v1 v2 v3 : Value) (a0 : Int32) (r0 : Value) (h : mr_h) (Q : Option Value → mr_h → Prop), mr_wp 79 25 [v0, v1, v2, v3] [.int a0, r0] h Q = mr_run 16 [.int a0] h (fun v h' => mr_wp 79 28 [v0, v1, v2, v3] (v.toList ++ [r0]) h' Q)) ∧
    (∀ (v0 v1 v2 v3 : Value) (x : Int32) (y : Int32) (st : List Value) (h : mr_h) (Q : Option Value → mr_h → Prop), mr_wp 79 28 [v0, v1, v2, v3] (.int y :: .int x :: st) h Q = mr_wp 79 29 [v0, v1, v2, v3] (.int (x ||| y) :: st) h Q) ∧
    (∀ (v0 v2 v3 : Value) (w1 : Int32) (x : Int32) (st : List Value) (h : mr_h) (Q : Option Value → mr_h → Prop), mr_wp 79 29 [v0, .int w1, v2, v3] (.int x :: st) h Q = mr_wp 79 30 [v0, .int w1, .int x, v3] st h Q) ∧
    (∀ (v0 v1 : Value) (x : Int32) (w2 : Int32) (st : List Value) (h : mr_h) (Q : Option Value → mr_h → Prop), mr_wp 79 30 [v0, v1, .int w2, .int x] st h Q = mr_wp 79 33 [v0, v1, .int w2, .int (x + (1))] st h Q) ∧
    (∀ (v0 v1 v2 v3 : Value) (st : List Value) (h : mr_h) (Q : Option Value → mr_h → Prop), mr_wp 79 33 [v0, v1, v2, v3] st h Q = mr_wp 79 4 [v0, v1, v2, v3] st h Q) ∧
    (∀ (v0 v1 v3 : Value) (x : Int32) (st : List Value) (h : mr_h) (Q : Option Value → mr_h → Prop), mr_wp 79 36 [v0, v1, .int x, v3] st h Q = mr_wp 79 37 [v0, v1, .int x, v3] (.int x :: st) h Q) ∧
    (∀ (v0 v1 v2 v3 : Value) (x : Int32) (h : mr_h) (Q : Option Value → mr_h → Prop), mr_wp 79 37 [v0, v1, v2, v3] [.int x] h Q = Q (some (.int x)) h) :=
  ⟨fun v0 v1 v2 v3 st h Q => gx_one (i := .iconst 0) (len := 1) (by decide +kernel) rfl,
   fun v0 v2 v3 w1 x st h Q => gx_one (i := .istore_n 2) (len := 1) (by decide +kernel) rfl,
   fun v0 v1 v2 v3 st h Q => gx_one (i := .iconst 0) (len := 1) (by decide +kernel) rfl,
   fun v0 v1 v3 w2 x st h Q => gx_one (i := .istore_n 3) (len := 1) (by decide +kernel) rfl,
   fun v1 v2 v3 x st h Q => gx_one (i := .aload_n 0) (len := 1) (by decide +kernel) rfl,
   fun v0 v1 v2 v3 a st h Q => gx_get (x := 19) (by decide +kernel) (by decide +kernel),
   fun v0 v1 v2 v3 x y st h Q => gx_br (i := .if_icmp .ge 27) (len := 3) (c := .ge) (by decide +kernel) rfl rfl,
   fun v1 v2 v3 x st h Q => gx_one (i := .aload_n 0) (len := 1) (by decide +kernel) rfl,
   fun v0 v1 v2 v3 a st h Q => gx_get (x := 33) (by decide +kernel) (by decide +kernel),
   fun v0 v1 v2 x st h Q => gx_one (i := .iload_n 3) (len := 1) (by decide +kernel) rfl,
   fun v0 v1 v2 v3 a x st h Q => gx_iald (by decide +kernel),
   fun v0 v2 v3 x st h Q => gx_one (i := .iload_n 1) (len := 1) (by decide +kernel) rfl,
   fun v0 v1 v2 v3 x y st h Q => gx_one (i := .iand) (len := 1) (by decide +kernel) rfl,
   fun v0 v1 v2 v3 x st h Q => gx_br (i := .ifCond .eq 10) (len := 3) (c := .eq) (by decide +kernel) rfl rfl,
   fun v0 v1 v3 x st h Q => gx_one (i := .iload_n 2) (len := 1) (by decide +kernel) rfl,
   fun v0 v1 v2 x st h Q => gx_one (i := .iload_n 3) (len := 1) (by decide +kernel) rfl,
   fun v0 v1 v2 v3 a0 r0 h Q => gx_stat (x := 15) (t := 16) (n := 1) (by decide +kernel) (by decide +kernel) (by decide) (by decide +kernel) rfl (Or.inl (Nat.le_of_ble_eq_true rfl)) (by show _ ≤ mr_mxl 16; rw [show mr_mxl 16 = 1 from by decide +kernel]; exact Nat.le_of_ble_eq_true rfl),
   fun v0 v1 v2 v3 x y st h Q => gx_one (i := .ior) (len := 1) (by decide +kernel) rfl,
   fun v0 v2 v3 w1 x st h Q => gx_one (i := .istore_n 2) (len := 1) (by decide +kernel) rfl,
   fun v0 v1 x w2 st h Q => gx_one (i := .iinc 3 1) (len := 3) (by decide +kernel) rfl,
   fun v0 v1 v2 v3 st h Q => gx_one (i := .goto (-29)) (len := 3) (by decide +kernel) rfl,
   fun v0 v1 v3 x st h Q => gx_one (i := .iload_n 2) (len := 1) (by decide +kernel) rfl,
   fun v0 v1 v2 v3 x h Q => gx_ret (i := .ireturn) (len := 1) (by decide +kernel) rfl rfl (by simp only [mr_rt, if_pos]; rw [if_pos (Or.inl (by decide +kernel))])⟩
theorem s_wa_nodeOfShortest_6 (v0 v1 v2 v3 v4 v5 : Value) (x : Int32) (st : List Value) (h : mr_h) (Q : Option Value → mr_h → Prop) : mr_wp 80 6 [v0, v1, v2, v3, v4, v5, .int x] st h Q = mr_wp 80 8 [v0, v1, v2, v3, v4, v5, .int x] (.int x :: st) h Q := gx_one (i := .iload 6) (len := 2) (by decide +kernel) rfl
theorem S_wa_nodeOfShortest : (∀ (v0 v1 v3 v4 v5 v6 : Value) (x : Int32) (st : List Value) (h : mr_h) (Q : Option Value → mr_h → Prop), mr_wp 80 0 [v0, v1, .int x, v3, v4, v5, v6] st h Q = mr_wp 80 1 [v0, v1, .int x, v3, v4, v5, v6] (.int x :: st) h Q) ∧
    (∀ (v0 v1 v2 v3 v5 v6 : Value) (w4 : Int32) (x : Int32) (st : List Value) (h : mr_h) (Q : Option Value → mr_h → Prop), mr_wp 80 1 [v0, v1, v2, v3, .int w4, v5, v6] (.int x :: st) h Q = mr_wp 80 3 [v0, v1, v2, v3, .int w4, .int x, v6] st h Q) ∧
    (∀ (v0 v1 v2 v3 v4 v5 v6 : Value) (st : List Value) (h : mr_h) (Q : Option Value → mr_h → Prop), mr_wp 80 3 [v0, v1, v2, v3, v4, v5, v6] st h Q = mr_wp 80 4 [v0, v1, v2, v3, v4, v5, v6] (.int (1) :: st) h Q) ∧
    (∀ (v0 v1 v2 v3 v4 v6 : Value) (w5 : Int32) (x : Int32) (st : List Value) (h : mr_h) (Q : Option Value → mr_h → Prop), mr_wp 80 4 [v0, v1, v2, v3, v4, .int w5, v6] (.int x :: st) h Q = mr_wp 80 6 [v0, v1, v2, v3, v4, .int w5, .int x] st h Q) ∧
    (∀ (v0 v1 v2 v3 v5 v6 : Value) (x : Int32) (st : List Value) (h : mr_h) (Q : Option Value → mr_h → Prop), mr_wp 80 8 [v0, v1, v2, v3, .int x, v5, v6] st h Q = mr_wp 80 10 [v0, v1, v2, v3, .int x, v5, v6] (.int x :: st) h Q) ∧
    (∀ (v0 v1 v2 v3 v4 v5 v6 : Value) (x : Int32) (y : Int32) (st : List Value) (h : mr_h) (Q : Option Value → mr_h → Prop), mr_wp 80 10 [v0, v1, v2, v3, v4, v5, v6] (.int y :: .int x :: st) h Q = if y < x then mr_wp 80 47 [v0, v1, v2, v3, v4, v5, v6] st h Q else mr_wp 80 13 [v0, v1, v2, v3, v4, v5, v6] st h Q) ∧
    (∀ (v0 v1 v2 v3 v4 v5 : Value) (x : Int32) (st : List Value) (h : mr_h) (Q : Option Value → mr_h → Prop), mr_wp 80 13 [v0, v1, v2, v3, v4, v5, .int x] st h Q = mr_wp 80 15 [v0, v1, v2, v3, v4, v5, .int x] (.int x :: st) h Q) ∧
    (∀ (v0 v1 v2 v4 v5 v6 : Value) (x : Int32) (st : List Value) (h : mr_h) (Q : Option Value → mr_h → Prop), mr_wp 80 15 [v0, v1, v2, .int x, v4, v5, v6] st h Q = mr_wp 80 16 [v0, v1, v2, .int x, v4, v5, v6] (.int x :: st) h Q) ∧
    (∀ (v0 v1 v2 v3 v4 v5 v6 : Value) (x : Int32) (y : Int32) (st : List Value) (h : mr_h) (Q : Option Value → mr_h → Prop), mr_wp 80 16 [v0, v1, v2, v3, v4, v5, v6] (.int y :: .int x :: st) h Q = if y < x then mr_wp 80 47 [v0, v1, v2, v3, v4, v5, v6] st h Q else mr_wp 80 19 [v0, v1, v2, v3, v4, v5, v6] st h Q) ∧
    (∀ (v0 v2 v3 v4 v5 v6 : Value) (x : Nat) (st : List Value) (h : mr_h) (Q : Option Value → mr_h → Prop), mr_wp 80 19 [v0, .ref x, v2, v3, v4, v5, v6] st h Q = mr_wp 80 20 [v0, .ref x, v2, v3, v4, v5, v6] (.ref x :: st) h Q) ∧
    (∀ (v0 v1 v2 v3 v4 v5 v6 : Value) (a : Nat) (st : List Value) (h : mr_h) (Q : Option Value → mr_h → Prop), mr_wp 80 20 [v0, v1, v2, v3, v4, v5, v6] (.ref a :: st) h Q = mr_gf (h.1 a) 3 1 (fun v => mr_wp 80 23 [v0, v1, v2, v3, v4, v5, v6] (v :: st) h Q)) ∧
    (∀ (v0 v1 v2 v3 v4 v6 : Value) (x : Int32) (st : List Value) (h : mr_h) (Q : Option Value → mr_h → Prop), mr_wp 80 23 [v0, v1, v2, v3, v4, .int x, v6] st h Q = mr_wp 80 25 [v0, v1, v2, v3, v4, .int x, v6] (.int x :: st) h Q) ∧
    (∀ (v0 v1 v2 v3 v4 v5 v6 : Value) (a : Nat) (x : Int32) (st : List Value) (h : mr_h) (Q : Option Value → mr_h → Prop), mr_wp 80 25 [v0, v1, v2, v3, v4, v5, v6] (.int x :: .ref a :: st) h Q = mr_ai (h.1 a) x (fun v => mr_wp 80 26 [v0, v1, v2, v3, v4, v5, v6] (.int v :: st) h Q)) ∧
    (∀ (v1 v2 v3 v4 v5 v6 : Value) (x : Nat) (st : List Value) (h : mr_h) (Q : Option Value → mr_h → Prop), mr_wp 80 26 [.ref x, v1, v2, v3, v4, v5, v6] st h Q = mr_wp 80 27 [.ref x, v1, v2, v3, v4, v5, v6] (.ref x :: st) h Q) ∧
    (∀ (v0 v1 v2 v3 v4 v5 v6 : Value) (a : Nat) (st : List Value) (h : mr_h) (Q : Option Value → mr_h → Prop), mr_wp 80 27 [v0, v1, v2, v3, v4, v5, v6] (.ref a :: st) h Q = mr_gf (h.1 a) 9 0 (fun v => mr_wp 80 30 [v0, v1, v2, v3, v4, v5, v6] (v :: st) h Q)) ∧
    (∀ (v0 v1 v2 v4 v5 v6 : Value) (x : Int32) (st : List Value) (h : mr_h) (Q : Option Value → mr_h → Prop), mr_wp 80 30 [v0, v1, v2, .int x, v4, v5, v6] st h Q = mr_wp 80 31 [v0, v1, v2, .int x, v4, v5, v6] (.int x :: st) h Q) ∧
    (∀ (v0 v1 v2 v3 v4 v5 : Value) (x : Int32) (st : List Value) (h : mr_h) (Q : Option Value → mr_h → Prop), mr_wp 80 31 [v0, v1, v2, v3, v4, v5, .int x] st h Q = mr_wp 80 33 [v0, v1, v2, v3, v4, v5, .int x] (.int x :: st) h Q) ∧
    (∀ (v0 v1 v2 v3 v4 v5 v6 : Value) (x : Int32) (y : Int32) (st : List Value) (h : mr_h) (Q : Option Value → mr_h → Prop), mr_wp 80 33 [v0, v1, v2, v3, v4, v5, v6] (.int y :: .int x :: st) h Q = mr_wp 80 34 [v0, v1, v2, v3, v4, v5, v6] (.int (x - y) :: st) h Q) ∧
    (∀ (v0 v1 v2 v3 v4 v5 v6 : Value) (a : Nat) (x : Int32) (st : List Value) (h : mr_h) (Q : Option Value → mr_h → Prop), mr_wp 80 34 [v0, v1, v2, v3, v4, v5, v6] (.int x :: .ref a :: st) h Q = mr_ai (h.1 a) x (fun v => mr_wp 80 35 [v0, v1, v2, v3, v4, v5, v6] (.int v :: st) h Q)) ∧
    (∀ (v0 v1 v2 v3 v4 v5 v6 : Value) (x : Int32) (y : Int32) (st : List Value) (h : mr_h) (Q : Option Value → mr_h → Prop), mr_wp 80 35 [v0, v1, v2, v3, v4, v5, v6] (.int y :: .int x :: st) h Q = mr_wp 80 36 [v0, v1, v2, v3, v4, v5, v6] (.int (x &&& y) :: st) h Q) ∧
    (∀ (v0 v1 v2 v3 v4 v5 v6 : Value) (a0 : Int32) (h : mr_h) (Q : Option Value → mr_h → Prop), mr_wp 80 36 [v0, v1, v2, v3, v4, v5, v6] [.int a0] h Q = mr_run 21 [.int a0] h (fun v h' => mr_wp 80 39 [v0, v1, v2, v3, v4, v5, v6] (v.toList ++ []) h' Q)) ∧
    (∀ (v0 v1 v2 v3 v5 v6 : Value) (w4 : Int32) (x : Int32) (st : List Value) (h : mr_h) (Q : Option Value → mr_h → Prop), mr_wp 80 39 [v0, v1, v2, v3, .int w4, v5, v6] (.int x :: st) h Q = mr_wp 80 41 [v0, v1, v2, v3, .int w4, .int x, v6] st h Q) ∧
    (∀ (v0 v1 v2 v3 v4 : Value) (x : Int32) (w5 : Int32) (st : List Value) (h : mr_h) (Q : Option Value → mr_h → Prop), mr_wp 80 41 [v0, v1, v2, v3, v4, .int w5, .int x] st h Q = mr_wp 80 44 [v0, v1, v2, v3, v4, .int w5, .int (x + (1))] st h Q) ∧
    (∀ (v0 v1 v2 v3 v4 v5 v6 : Value) (st : List Value) (h : mr_h) (Q : Option Value → mr_h → Prop), mr_wp 80 44 [v0, v1, v2, v3, v4, v5, v6] st h Q = mr_wp 80 6 [v0, v1, v2, v3, v4, v5, v6] st h Q) ∧
    (∀ (v0 v1 v2 v3 v4 v6 : Value) (x : Int32) (st : List Value) (h : mr_h) (Q : Option Value → mr_h → Prop), mr_wp 80 47 [v0, v1, v2, v3, v4, .int x, v6] st h Q = mr_wp 80 49 [v0, v1, v2, v3, v4, .int x, v6] (.int x :: st) h Q) ∧
    (∀ (v0 v1 v2 v3 v4 v5 v6 : Value) (x : Int32) (h : mr_h) (Q : Option Value → mr_h → Prop), mr_wp 80 49 [v0, v1, v2, v3, v4, v5, v6] [.int x] h Q = Q (some (.int x)) h) :=
  ⟨fun v0 v1 v3 v4 v5 v6 x st h Q => gx_one (i := .iload_n 2) (len := 1) (by decide +kernel) rfl,
   fun v0 v1 v2 v3 v5 v6 w4 x st h Q => gx_one (i := .istore 5) (len := 2) (by decide +kernel) rfl,
   fun v0 v1 v2 v3 v4 v5 v6 st h Q => gx_one (i := .iconst 1) (len := 1) (by decide +kernel) rfl,
   fun v0 v1 v2 v3 v4 v6 w5 x st h Q => gx_one (i := .istore 6) (len := 2) (by decide +kernel) rfl,
   fun v0 v1 v2 v3 v5 v6 x st h Q => gx_one (i := .iload 4) (len := 2) (by decide +kernel) rfl,
   fun v0 v1 v2 v3 v4 v5 v6 x y st h Q => gx_br (i := .if_icmp .gt 37) (len := 3) (c := .gt) (by decide +kernel) rfl rfl,
   fun v0 v1 v2 v3 v4 v5 x st h Q => gx_one (i := .iload 6) (len := 2) (by decide +kernel) rfl,
   fun v0 v1 v2 v4 v5 v6 x st h Q => gx_one (i := .iload_n 3) (len := 1) (by decide +kernel) rfl,
   fun v0 v1 v2 v3 v4 v5 v6 x y st h Q => gx_br (i := .if_icmp .gt 31) (len := 3) (c := .gt) (by decide +kernel) rfl rfl,
   fun v0 v2 v3 v4 v5 v6 x st h Q => gx_one (i := .aload_n 1) (len := 1) (by decide +kernel) rfl,
   fun v0 v1 v2 v3 v4 v5 v6 a st h Q => gx_get (x := 33) (by decide +kernel) (by decide +kernel),
   fun v0 v1 v2 v3 v4 v6 x st h Q => gx_one (i := .iload 5) (len := 2) (by decide +kernel) rfl,
   fun v0 v1 v2 v3 v4 v5 v6 a x st h Q => gx_iald (by decide +kernel),
   fun v1 v2 v3 v4 v5 v6 x st h Q => gx_one (i := .aload_n 0) (len := 1) (by decide +kernel) rfl,
   fun v0 v1 v2 v3 v4 v5 v6 a st h Q => gx_get (x := 9) (by decide +kernel) (by decide +kernel),
   fun v0 v1 v2 v4 v5 v6 x st h Q => gx_one (i := .iload_n 3) (len := 1) (by decide +kernel) rfl,
   fun v0 v1 v2 v3 v4 v5 x st h Q => gx_one (i := .iload 6) (len := 2) (by decide +kernel) rfl,
   fun v0 v1 v2 v3 v4 v5 v6 x y st h Q => gx_one (i := .isub) (len := 1) (by decide +kernel) rfl,
   fun v0 v1 v2 v3 v4 v5 v6 a x st h Q => gx_iald (by decide +kernel),
   fun v0 v1 v2 v3 v4 v5 v6 x y st h Q => gx_one (i := .iand) (len := 1) (by decide +kernel) rfl,
   fun v0 v1 v2 v3 v4 v5 v6 a0 h Q => gx_stat (x := 36) (t := 21) (n := 1) (by decide +kernel) (by decide +kernel) (by decide) (by decide +kernel) rfl (Or.inl (Nat.le_of_ble_eq_true rfl)) (by show _ ≤ mr_mxl 21; rw [show mr_mxl 21 = 2 from by decide +kernel]; exact Nat.le_of_ble_eq_true rfl),
   fun v0 v1 v2 v3 v5 v6 w4 x st h Q => gx_one (i := .istore 5) (len := 2) (by decide +kernel) rfl,
   fun v0 v1 v2 v3 v4 x w5 st h Q => gx_one (i := .iinc 6 1) (len := 3) (by decide +kernel) rfl,
   fun v0 v1 v2 v3 v4 v5 v6 st h Q => gx_one (i := .goto (-38)) (len := 3) (by decide +kernel) rfl,
   fun v0 v1 v2 v3 v4 v6 x st h Q => gx_one (i := .iload 5) (len := 2) (by decide +kernel) rfl,
   fun v0 v1 v2 v3 v4 v5 v6 x h Q => gx_ret (i := .ireturn) (len := 1) (by decide +kernel) rfl rfl (by simp only [mr_rt, if_pos]; rw [if_pos (Or.inl (by decide +kernel))])⟩
theorem S_rl_on : (∀ (v1 v2 v3 v4 : Value) (x : Nat) (st : List Value) (h : mr_h) (Q : Option Value → mr_h → Prop), mr_wp 81 0 [.ref x, v1, v2, v3, v4] st h Q = mr_wp 81 1 [.ref x, v1, v2, v3, v4] (.ref x :: st) h Q) ∧
    (∀ (v0 v2 v3 v4 : Value) (x : Int32) (st : List Value) (h : mr_h) (Q : Option Value → mr_h → Prop), mr_wp 81 1 [v0, .int x, v2, v3, v4] st h Q = mr_wp 81 2 [v0, .int x, v2, v3, v4] (.int x :: st) h Q) ∧
    (∀ (v0 v1 v3 v4 : Value) (x : Int32) (st : List Value) (h : mr_h) (Q : Option Value → mr_h → Prop), mr_wp 81 2 [v0, v1, .int x, v3, v4] st h Q = mr_wp 81 3 [v0, v1, .int x, v3, v4] (.int x :: st) h Q) ∧
    (∀ (v0 v1 v2 v3 v4 : Value) (a0 : Int32) (a1 : Int32) (o : Nat) (h : mr_h) (Q : Option Value → mr_h → Prop), mr_wp 81 3 [v0, v1, v2, v3, v4] [.int a1, .int a0, .ref o] h Q = mr_rc (h.1 o) 10 (mr_run 47 [.ref o, .int a0, .int a1] h (fun v h' => mr_wp 81 6 [v0, v1, v2, v3, v4] (v.toList ++ []) h' Q))) ∧
    (∀ (v0 v1 v2 v3 v4 : Value) (x : Int32) (st : List Value) (h : mr_h) (Q : Option Value → mr_h → Prop), mr_wp 81 6 [v0, v1, v2, v3, v4] (.int x :: st) h Q = if x = 0 then mr_wp 81 16 [v0, v1, v2, v3, v4] st h Q else mr_wp 81 9 [v0, v1, v2, v3, v4] st h Q) ∧
    (∀ (v0 v1 v2 v4 : Value) (x : Int32) (st : List Value) (h : mr_h) (Q : Option Value → mr_h → Prop), mr_wp 81 9 [v0, v1, v2, .int x, v4] st h Q = mr_wp 81 10 [v0, v1, v2, .int x, v4] (.int x :: st) h Q) ∧
    (∀ (v0 v1 v2 v3 v4 : Value) (a0 : Int32) (h : mr_h) (Q : Option Value → mr_h → Prop), mr_wp 81 10 [v0, v1, v2, v3, v4] [.int a0] h Q = mr_run 82 [.int a0] h (fun v h' => mr_wp 81 13 [v0, v1, v2, v3, v4] (v.toList ++ []) h' Q)) ∧
    (∀ (v0 v1 v2 v3 v4 : Value) (x : Int32) (st : List Value) (h : mr_h) (Q : Option Value → mr_h → Prop), mr_wp 81 13 [v0, v1, v2, v3, v4] (.int x :: st) h Q = if ¬ x = 0 then mr_wp 81 18 [v0, v1, v2, v3, v4] st h Q else mr_wp 81 16 [v0, v1, v2, v3, v4] st h Q) ∧
    (∀ (v0 v1 v2 v3 v4 : Value) (st : List Value) (h : mr_h) (Q : Option Value → mr_h → Prop), mr_wp 81 16 [v0, v1, v2, v3, v4] st h Q = mr_wp 81 17 [v0, v1, v2, v3, v4] (.int (-1) :: st) h Q) ∧
    (∀ (v0 v1 v2 v3 v4 : Value) (x : Int32) (h : mr_h) (Q : Option Value → mr_h → Prop), mr_wp 81 17 [v0, v1, v2, v3, v4] [.int x] h Q = Q (some (.int x)) h) ∧
    (∀ (v1 v2 v3 v4 : Value) (x : Nat) (st : List Value) (h : mr_h) (Q : Option Value → mr_h → Prop), mr_wp 81 18 [.ref x, v1, v2, v3, v4] st h Q = mr_wp 81 19 [.ref x, v1, v2, v3, v4] (.ref x :: st) h Q) ∧
    (∀ (v0 v1 v2 v3 v4 : Value) (a : Nat) (st : List Value) (h : mr_h) (Q : Option Value → mr_h → Prop), mr_wp 81 19 [v0, v1, v2, v3, v4] (.ref a :: st) h Q = mr_gf (h.1 a) 10 3 (fun v => mr_wp 81 22 [v0, v1, v2, v3, v4] (v :: st) h Q)) ∧
    (∀ (v0 v1 v2 v3 v4 : Value) (a : Nat) (st : List Value) (h : mr_h) (Q : Option Value → mr_h → Prop), mr_wp 81 22 [v0, v1, v2, v3, v4] (.ref a :: st) h Q = mr_gf (h.1 a) 6 0 (fun v => mr_wp 81 25 [v0, v1, v2, v3, v4] (v :: st) h Q)) ∧
    (∀ (v0 v2 v3 v4 : Value) (x : Int32) (st : List Value) (h : mr_h) (Q : Option Value → mr_h → Prop), mr_wp 81 25 [v0, .int x, v2, v3, v4] st h Q = mr_wp 81 26 [v0, .int x, v2, v3, v4] (.int x :: st) h Q) ∧
    (∀ (v0 v1 v2 v3 v4 : Value) (a : Nat) (x : Int32) (st : List Value) (h : mr_h) (Q : Option Value → mr_h → Prop), mr_wp 81 26 [v0, v1, v2, v3, v4] (.int x :: .ref a :: st) h Q = mr_ai (h.1 a) x (fun v => mr_wp 81 27 [v0, v1, v2, v3, v4] (.int v :: st) h Q)) ∧
    (∀ (v1 v2 v3 v4 : Value) (x : Nat) (st : List Value) (h : mr_h) (Q : Option Value → mr_h → Prop), mr_wp 81 27 [.ref x, v1, v2, v3, v4] st h Q = mr_wp 81 28 [.ref x, v1, v2, v3, v4] (.ref x :: st) h Q) ∧
    (∀ (v0 v1 v2 v3 v4 : Value) (a : Nat) (st : List Value) (h : mr_h) (Q : Option Value → mr_h → Prop), mr_wp 81 28 [v0, v1, v2, v3, v4] (.ref a :: st) h Q = mr_gf (h.1 a) 10 3 (fun v => mr_wp 81 31 [v0, v1, v2, v3, v4] (v :: st) h Q)) ∧
    (∀ (v0 v1 v2 v3 v4 : Value) (a : Nat) (st : List Value) (h : mr_h) (Q : Option Value → mr_h → Prop), mr_wp 81 31 [v0, v1, v2, v3, v4] (.ref a :: st) h Q = mr_gf (h.1 a) 6 1 (fun v => mr_wp 81 34 [v0, v1, v2, v3, v4] (v :: st) h Q)) ∧
    (∀ (v0 v1 v3 v4 : Value) (x : Int32) (st : List Value) (h : mr_h) (Q : Option Value → mr_h → Prop), mr_wp 81 34 [v0, v1, .int x, v3, v4] st h Q = mr_wp 81 35 [v0, v1, .int x, v3, v4] (.int x :: st) h Q) ∧
    (∀ (v0 v1 v2 v3 v4 : Value) (a : Nat) (x : Int32) (st : List Value) (h : mr_h) (Q : Option Value → mr_h → Prop), mr_wp 81 35 [v0, v1, v2, v3, v4] (.int x :: .ref a :: st) h Q = mr_ai (h.1 a) x (fun v => mr_wp 81 36 [v0, v1, v2, v3, v4] (.int v :: st) h Q)) ∧
    (∀ (v0 v1 v2 v3 v4 : Value) (x : Int32) (y : Int32) (st : List Value) (h : mr_h) (Q : Option Value → mr_h → Prop), mr_wp 81 36 [v0, v1, v2, v3, v4] (.int y :: .int x :: st) h Q = mr_wp 81 37 [v0, v1, v2, v3, v4] (.int (x &&& y) :: st) h Q) ∧
    (∀ (v0 v1 v2 v4 : Value) (w3 : Int32) (x : Int32) (st : List Value) (h : mr_h) (Q : Option Value → mr_h → Prop), mr_wp 81 37 [v0, v1, v2, .int w3, v4] (.int x :: st) h Q = mr_wp 81 39 [v0, v1, v2, .int w3, .int x] st h Q) ∧
    (∀ (v0 v1 v2 v4 : Value) (x : Int32) (st : List Value) (h : mr_h) (Q : Option Value → mr_h → Prop), mr_wp 81 39 [v0, v1, v2, .int x, v4] st h Q = mr_wp 81 40 [v0, v1, v2, .int x, v4] (.int x :: st) h Q) ∧
    (∀ (v0 v1 v2 v3 v4 : Value) (x : Int32) (st : List Value) (h : mr_h) (Q : Option Value → mr_h → Prop), mr_wp 81 40 [v0, v1, v2, v3, v4] (.int x :: st) h Q = if ¬ x = 0 then mr_wp 81 48 [v0, v1, v2, v3, v4] st h Q else mr_wp 81 43 [v0, v1, v2, v3, v4] st h Q) ∧
    (∀ (v0 v1 v2 v3 : Value) (x : Int32) (st : List Value) (h : mr_h) (Q : Option Value → mr_h → Prop), mr_wp 81 43 [v0, v1, v2, v3, .int x] st h Q = mr_wp 81 45 [v0, v1, v2, v3, .int x] (.int x :: st) h Q) ∧
    (∀ (v0 v1 v2 v3 v4 : Value) (st : List Value) (h : mr_h) (Q : Option Value → mr_h → Prop), mr_wp 81 45 [v0, v1, v2, v3, v4] st h Q = mr_wp 81 63 [v0, v1, v2, v3, v4] st h Q) ∧
    (∀ (v1 v2 v3 v4 : Value) (x : Nat) (st : List Value) (h : mr_h) (Q : Option Value → mr_h → Prop), mr_wp 81 48 [.ref x, v1, v2, v3, v4] st h Q = mr_wp 81 49 [.ref x, v1, v2, v3, v4] (.ref x :: st) h Q) ∧
    (∀ (v0 v1 v2 v3 v4 : Value) (a : Nat) (st : List Value) (h : mr_h) (Q : Option Value → mr_h → Prop), mr_wp 81 49 [v0, v1, v2, v3, v4] (.ref a :: st) h Q = mr_gf (h.1 a) 10 5 (fun v => mr_wp 81 52 [v0, v1, v2, v3, v4] (v :: st) h Q)) ∧
    (∀ (v1 v2 v3 v4 : Value) (x : Nat) (st : List Value) (h : mr_h) (Q : Option Value → mr_h → Prop), mr_wp 81 52 [.ref x, v1, v2, v3, v4] st h Q = mr_wp 81 53 [.ref x, v1, v2, v3, v4] (.ref x :: st) h Q) ∧
    (∀ (v0 v1 v2 v3 v4 : Value) (a : Nat) (st : List Value) (h : mr_h) (Q : Option Value → mr_h → Prop), mr_wp 81 53 [v0, v1, v2, v3, v4] (.ref a :: st) h Q = mr_gf (h.1 a) 10 0 (fun v => mr_wp 81 56 [v0, v1, v2, v3, v4] (v :: st) h Q)) ∧
    (∀ (v0 v2 v3 v4 : Value) (x : Int32) (st : List Value) (h : mr_h) (Q : Option Value → mr_h → Prop), mr_wp 81 56 [v0, .int x, v2, v3, v4] st h Q = mr_wp 81 57 [v0, .int x, v2, v3, v4] (.int x :: st) h Q) ∧
    (∀ (v0 v1 v3 v4 : Value) (x : Int32) (st : List Value) (h : mr_h) (Q : Option Value → mr_h → Prop), mr_wp 81 57 [v0, v1, .int x, v3, v4] st h Q = mr_wp 81 58 [v0, v1, .int x, v3, v4] (.int x :: st) h Q) ∧
    (∀ (v0 v1 v2 v3 : Value) (x : Int32) (st : List Value) (h : mr_h) (Q : Option Value → mr_h → Prop), mr_wp 81 58 [v0, v1, v2, v3, .int x] st h Q = mr_wp 81 60 [v0, v1, v2, v3, .int x] (.int x :: st) h Q) ∧
    (∀ (v0 v1 v2 v3 v4 : Value) (a0 : Nat) (a1 : Int32) (a2 : Int32) (a3 : Int32) (o : Nat) (h : mr_h) (Q : Option Value → mr_h → Prop), mr_wp 81 60 [v0, v1, v2, v3, v4] [.int a3, .int a2, .int a1, .ref a0, .ref o] h Q = mr_rc (h.1 o) 9 (mr_run 83 [.ref o, .ref a0, .int a1, .int a2, .int a3] h (fun v h' => mr_wp 81 63 [v0, v1, v2, v3, v4] (v.toList ++ []) h' Q))) ∧
    (∀ (v0 v1 v2 v3 v4 : Value) (x : Int32) (h : mr_h) (Q : Option Value → mr_h → Prop), mr_wp 81 63 [v0, v1, v2, v3, v4] [.int x] h Q = Q (some (.int x)) h) :=
  ⟨fun v1 v2 v3 v4 x st h Q => gx_one (i := .aload_n 0) (len := 1) (by decide +kernel) rfl,
   fun v0 v2 v3 v4 x st h Q => gx_one (i := .iload_n 1) (len := 1) (by decide +kernel) rfl,
   fun v0 v1 v3 v4 x st h Q => gx_one (i := .iload_n 2) (len := 1) (by decide +kernel) rfl,
   fun v0 v1 v2 v3 v4 a0 a1 o h Q => gx_virt (x := 182) (n := 2) (by decide +kernel) (by decide +kernel) rfl (Or.inl (Nat.le_of_ble_eq_true rfl)) (by show _ ≤ mr_mxl 47; rw [show mr_mxl 47 = 3 from by decide +kernel]; exact Nat.le_of_ble_eq_true rfl) (by decide +kernel),
   fun v0 v1 v2 v3 v4 x st h Q => gx_br (i := .ifCond .eq 10) (len := 3) (c := .eq) (by decide +kernel) rfl rfl,
   fun v0 v1 v2 v4 x st h Q => gx_one (i := .iload_n 3) (len := 1) (by decide +kernel) rfl,
   fun v0 v1 v2 v3 v4 a0 h Q => gx_stat (x := 196) (t := 82) (n := 1) (by decide +kernel) (by decide +kernel) (by decide) (by decide +kernel) rfl (Or.inl (Nat.le_of_ble_eq_true rfl)) (by show _ ≤ mr_mxl 82; rw [show mr_mxl 82 = 1 from by decide +kernel]; exact Nat.le_of_ble_eq_true rfl),
   fun v0 v1 v2 v3 v4 x st h Q => gx_br (i := .ifCond .ne 5) (len := 3) (c := .ne) (by decide +kernel) rfl rfl,
   fun v0 v1 v2 v3 v4 st h Q => gx_one (i := .iconst (-1)) (len := 1) (by decide +kernel) rfl,
   fun v0 v1 v2 v3 v4 x h Q => gx_ret (i := .ireturn) (len := 1) (by decide +kernel) rfl rfl (by simp only [mr_rt, if_pos]; rw [if_pos (Or.inl (by decide +kernel))]),
   fun v1 v2 v3 v4 x st h Q => gx_one (i := .aload_n 0) (len := 1) (by decide +kernel) rfl,
   fun v0 v1 v2 v3 v4 a st h Q => gx_get (x := 29) (by decide +kernel) (by decide +kernel),
   fun v0 v1 v2 v3 v4 a st h Q => gx_get (x := 128) (by decide +kernel) (by decide +kernel),
   fun v0 v2 v3 v4 x st h Q => gx_one (i := .iload_n 1) (len := 1) (by decide +kernel) rfl,
   fun v0 v1 v2 v3 v4 a x st h Q => gx_iald (by decide +kernel),
   fun v1 v2 v3 v4 x st h Q => gx_one (i := .aload_n 0) (len := 1) (by decide +kernel) rfl,
   fun v0 v1 v2 v3 v4 a st h Q => gx_get (x := 29) (by decide +kernel) (by decide +kernel),
   fun v0 v1 v2 v3 v4 a st h Q => gx_get (x := 131) (by decide +kernel) (by decide +kernel),
   fun v0 v1 v3 v4 x st h Q => gx_one (i := .iload_n 2) (len := 1) (by decide +kernel) rfl,
   fun v0 v1 v2 v3 v4 a x st h Q => gx_iald (by decide +kernel),
   fun v0 v1 v2 v3 v4 x y st h Q => gx_one (i := .iand) (len := 1) (by decide +kernel) rfl,
   fun v0 v1 v2 v4 w3 x st h Q => gx_one (i := .istore 4) (len := 2) (by decide +kernel) rfl,
   fun v0 v1 v2 v4 x st h Q => gx_one (i := .iload_n 3) (len := 1) (by decide +kernel) rfl,
   fun v0 v1 v2 v3 v4 x st h Q => gx_br (i := .ifCond .ne 8) (len := 3) (c := .ne) (by decide +kernel) rfl rfl,
   fun v0 v1 v2 v3 x st h Q => gx_one (i := .iload 4) (len := 2) (by decide +kernel) rfl,
   fun v0 v1 v2 v3 v4 st h Q => gx_one (i := .goto 18) (len := 3) (by decide +kernel) rfl,
   fun v1 v2 v3 v4 x st h Q => gx_one (i := .aload_n 0) (len := 1) (by decide +kernel) rfl,
   fun v0 v1 v2 v3 v4 a st h Q => gx_get (x := 43) (by decide +kernel) (by decide +kernel),
   fun v1 v2 v3 v4 x st h Q => gx_one (i := .aload_n 0) (len := 1) (by decide +kernel) rfl,
   fun v0 v1 v2 v3 v4 a st h Q => gx_get (x := 10) (by decide +kernel) (by decide +kernel),
   fun v0 v2 v3 v4 x st h Q => gx_one (i := .iload_n 1) (len := 1) (by decide +kernel) rfl,
   fun v0 v1 v3 v4 x st h Q => gx_one (i := .iload_n 2) (len := 1) (by decide +kernel) rfl,
   fun v0 v1 v2 v3 x st h Q => gx_one (i := .iload 4) (len := 2) (by decide +kernel) rfl,
   fun v0 v1 v2 v3 v4 a0 a1 a2 a3 o h Q => gx_virt (x := 199) (n := 4) (by decide +kernel) (by decide +kernel) rfl (Or.inl (Nat.le_of_ble_eq_true rfl)) (by show _ ≤ mr_mxl 83; rw [show mr_mxl 83 = 7 from by decide +kernel]; exact Nat.le_of_ble_eq_true rfl) (by decide +kernel),
   fun v0 v1 v2 v3 v4 x h Q => gx_ret (i := .ireturn) (len := 1) (by decide +kernel) rfl rfl (by simp only [mr_rt, if_pos]; rw [if_pos (Or.inl (by decide +kernel))])⟩
