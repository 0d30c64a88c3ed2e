/-! step equations of the constructors, printed by wip/whole/gen72.py -/
theorem gx_obj {M pc x a : Nat} {lv st : List Value} {h : mr_h} {Q : Option Value → mr_h → Prop} (hf : mr_ft M pc = some (.invokespecial x, 3)) (hk : mr_tl M x = some 1001) (hr : st.length ≤ 4) : mr_wp M pc lv (.ref a :: st) h Q = mr_wp M (pc + 3) lv st h Q := by
  refine gx_one hf ?_
  show (if 3 = 3 then mr_spe M x pc lv (.ref a :: st) h else none) = _
  rw [if_pos rfl]
  unfold mr_spe
  rw [hk]
  show (if st.length ≤ 4 then some (pc + 3, lv, st, h) else none) = _
  rw [if_pos hr]
theorem S_rl_init_0 : (∀ (x : Nat) (st : List Value) (h : mr_h) (Q : Option Value → mr_h → Prop), mr_wp 0 0 [.ref x] st h Q = mr_wp 0 1 [.ref x] (.ref x :: st) h Q) ∧
    (∀ (v0 : Value) (a : Nat) (h : mr_h) (Q : Option Value → mr_h → Prop), mr_wp 0 1 [v0] [.ref a] h Q = mr_wp 0 4 [v0] [] h Q) ∧
    (∀ (x : Nat) (st : List Value) (h : mr_h) (Q : Option Value → mr_h → Prop), mr_wp 0 4 [.ref x] st h Q = mr_wp 0 5 [.ref x] (.ref x :: st) h Q) ∧
    (∀ (v0 : Value) (st : List Value) (h : mr_h) (Q : Option Value → mr_h → Prop), mr_wp 0 5 [v0] st h Q = mr_wp 0 8 [v0] (.ref h.2.1 :: st) (mr_add h 3 (mr_O 3 (mr_dfs 3))) Q) ∧
    (∀ (v0 : Value) (x : Nat) (st : List Value) (h : mr_h) (Q : Option Value → mr_h → Prop), mr_wp 0 8 [v0] (.ref x :: st) h Q = mr_wp 0 9 [v0] (.ref x :: .ref x :: st) h Q) ∧
    (∀ (v0 : Value) (o : Nat) (r0 : Value) (r1 : Value) (h : mr_h) (Q : Option Value → mr_h → Prop), mr_wp 0 9 [v0] [.ref o, r0, r1] h Q = mr_run 1 [.ref o] h (fun v h' => mr_wp 0 12 [v0] (v.toList ++ [r0, r1]) h' Q)) ∧
    (∀ (v0 : Value) (a : Nat) (x : Nat) (st : List Value) (h : mr_h) (Q : Option Value → mr_h → Prop), mr_wp 0 12 [v0] (.ref x :: .ref a :: st) h Q = mr_pf (h.1 a) 10 0 (.ref x) (fun c => mr_wp 0 15 [v0] st (mr_up h a c) Q)) ∧
    (∀ (x : Nat) (st : List Value) (h : mr_h) (Q : Option Value → mr_h → Prop), mr_wp 0 15 [.ref x] st h Q = mr_wp 0 16 [.ref x] (.ref x :: st) h Q) ∧
    (∀ (v0 : Value) (st : List Value) (h : mr_h) (Q : Option Value → mr_h → Prop), mr_wp 0 16 [v0] st h Q = mr_wp 0 19 [v0] (.ref h.2.1 :: st) (mr_add h 3 (mr_O 3 (mr_dfs 3))) Q) ∧
    (∀ (v0 : Value) (x : Nat) (st : List Value) (h : mr_h) (Q : Option Value → mr_h → Prop), mr_wp 0 19 [v0] (.ref x :: st) h Q = mr_wp 0 20 [v0] (.ref x :: .ref x :: st) h Q) ∧
    (∀ (v0 : Value) (o : Nat) (r0 : Value) (r1 : Value) (h : mr_h) (Q : Option Value → mr_h → Prop), mr_wp 0 20 [v0] [.ref o, r0, r1] h Q = mr_run 1 [.ref o] h (fun v h' => mr_wp 0 23 [v0] (v.toList ++ [r0, r1]) h' Q)) ∧
    (∀ (v0 : Value) (a : Nat) (x : Nat) (st : List Value) (h : mr_h) (Q : Option Value → mr_h → Prop), mr_wp 0 23 [v0] (.ref x :: .ref a :: st) h Q = mr_pf (h.1 a) 10 1 (.ref x) (fun c => mr_wp 0 26 [v0] st (mr_up h a c) Q)) ∧
    (∀ (x : Nat) (st : List Value) (h : mr_h) (Q : Option Value → mr_h → Prop), mr_wp 0 26 [.ref x] st h Q = mr_wp 0 27 [.ref x] (.ref x :: st) h Q) ∧
    (∀ (v0 : Value) (st : List Value) (h : mr_h) (Q : Option Value → mr_h → Prop), mr_wp 0 27 [v0] st h Q = mr_wp 0 30 [v0] (.ref h.2.1 :: st) (mr_add h 7 (mr_O 7 (mr_dfs 7))) Q) ∧
    (∀ (v0 : Value) (x : Nat) (st : List Value) (h : mr_h) (Q : Option Value → mr_h → Prop), mr_wp 0 30 [v0] (.ref x :: st) h Q = mr_wp 0 31 [v0] (.ref x :: .ref x :: st) h Q) ∧
    (∀ (v0 : Value) (o : Nat) (r0 : Value) (r1 : Value) (h : mr_h) (Q : Option Value → mr_h → Prop), mr_wp 0 31 [v0] [.ref o, r0, r1] h Q = mr_run 5 [.ref o] h (fun v h' => mr_wp 0 34 [v0] (v.toList ++ [r0, r1]) h' Q)) ∧
    (∀ (v0 : Value) (a : Nat) (x : Nat) (st : List Value) (h : mr_h) (Q : Option Value → mr_h → Prop), mr_wp 0 34 [v0] (.ref x :: .ref a :: st) h Q = mr_pf (h.1 a) 10 2 (.ref x) (fun c => mr_wp 0 37 [v0] st (mr_up h a c) Q)) ∧
    (∀ (x : Nat) (st : List Value) (h : mr_h) (Q : Option Value → mr_h → Prop), mr_wp 0 37 [.ref x] st h Q = mr_wp 0 38 [.ref x] (.ref x :: st) h Q) ∧
    (∀ (v0 : Value) (st : List Value) (h : mr_h) (Q : Option Value → mr_h → Prop), mr_wp 0 38 [v0] st h Q = mr_wp 0 41 [v0] (.ref h.2.1 :: st) (mr_add h 10 (mr_O 6 (mr_dfs 6))) Q) ∧
    (∀ (v0 : Value) (x : Nat) (st : List Value) (h : mr_h) (Q : Option Value → mr_h → Prop), mr_wp 0 41 [v0] (.ref x :: st) h Q = mr_wp 0 42 [v0] (.ref x :: .ref x :: st) h Q) ∧
    (∀ (v0 : Value) (o : Nat) (r0 : Value) (r1 : Value) (h : mr_h) (Q : Option Value → mr_h → Prop), mr_wp 0 42 [v0] [.ref o, r0, r1] h Q = mr_run 6 [.ref o] h (fun v h' => mr_wp 0 45 [v0] (v.toList ++ [r0, r1]) h' Q)) ∧
    (∀ (v0 : Value) (a : Nat) (x : Nat) (st : List Value) (h : mr_h) (Q : Option Value → mr_h → Prop), mr_wp 0 45 [v0] (.ref x :: .ref a :: st) h Q = mr_pf (h.1 a) 10 3 (.ref x) (fun c => mr_wp 0 48 [v0] st (mr_up h a c) Q)) ∧
    (∀ (x : Nat) (st : List Value) (h : mr_h) (Q : Option Value → mr_h → Prop), mr_wp 0 48 [.ref x] st h Q = mr_wp 0 49 [.ref x] (.ref x :: st) h Q) ∧
    (∀ (v0 : Value) (st : List Value) (h : mr_h) (Q : Option Value → mr_h → Prop), mr_wp 0 49 [v0] st h Q = mr_wp 0 52 [v0] (.ref h.2.1 :: st) (mr_add h 1 (mr_O 5 (mr_dfs 5))) Q) ∧
    (∀ (v0 : Value) (x : Nat) (st : List Value) (h : mr_h) (Q : Option Value → mr_h → Prop), mr_wp 0 52 [v0] (.ref x :: st) h Q = mr_wp 0 53 [v0] (.ref x :: .ref x :: st) h Q) ∧
    (∀ (v0 : Value) (o : Nat) (r0 : Value) (r1 : Value) (h : mr_h) (Q : Option Value → mr_h → Prop), mr_wp 0 53 [v0] [.ref o, r0, r1] h Q = mr_run 7 [.ref o] h (fun v h' => mr_wp 0 56 [v0] (v.toList ++ [r0, r1]) h' Q)) ∧
    (∀ (v0 : Value) (a : Nat) (x : Nat) (st : List Value) (h : mr_h) (Q : Option Value → mr_h → Prop), mr_wp 0 56 [v0] (.ref x :: .ref a :: st) h Q = mr_pf (h.1 a) 10 4 (.ref x) (fun c => mr_wp 0 59 [v0] st (mr_up h a c) Q)) ∧
    (∀ (x : Nat) (st : List Value) (h : mr_h) (Q : Option Value → mr_h → Prop), mr_wp 0 59 [.ref x] st h Q = mr_wp 0 60 [.ref x] (.ref x :: st) h Q) ∧
    (∀ (v0 : Value) (st : List Value) (h : mr_h) (Q : Option Value → mr_h → Prop), mr_wp 0 60 [v0] st h Q = mr_wp 0 63 [v0] (.ref h.2.1 :: st) (mr_add h 1 (mr_O 9 (mr_dfs 9))) Q) ∧
    (∀ (v0 : Value) (x : Nat) (st : List Value) (h : mr_h) (Q : Option Value → mr_h → Prop), mr_wp 0 63 [v0] (.ref x :: st) h Q = mr_wp 0 64 [v0] (.ref x :: .ref x :: st) h Q) ∧
    (∀ (v0 : Value) (o : Nat) (r0 : Value) (r1 : Value) (h : mr_h) (Q : Option Value → mr_h → Prop), mr_wp 0 64 [v0] [.ref o, r0, r1] h Q = mr_run 8 [.ref o] h (fun v h' => mr_wp 0 67 [v0] (v.toList ++ [r0, r1]) h' Q)) ∧
    (∀ (v0 : Value) (a : Nat) (x : Nat) (st : List Value) (h : mr_h) (Q : Option Value → mr_h → Prop), mr_wp 0 67 [v0] (.ref x :: .ref a :: st) h Q = mr_pf (h.1 a) 10 5 (.ref x) (fun c => mr_wp 0 70 [v0] st (mr_up h a c) Q)) ∧
    (∀ (x : Nat) (st : List Value) (h : mr_h) (Q : Option Value → mr_h → Prop), mr_wp 0 70 [.ref x] st h Q = mr_wp 0 71 [.ref x] (.ref x :: st) h Q) ∧
    (∀ (v0 : Value) (st : List Value) (h : mr_h) (Q : Option Value → mr_h → Prop), mr_wp 0 71 [v0] st h Q = mr_wp 0 74 [v0] (.ref h.2.1 :: st) (mr_add h 1 (mr_O 2 (mr_dfs 2))) Q) ∧
    (∀ (v0 : Value) (x : Nat) (st : List Value) (h : mr_h) (Q : Option Value → mr_h → Prop), mr_wp 0 74 [v0] (.ref x :: st) h Q = mr_wp 0 75 [v0] (.ref x :: .ref x :: st) h Q) ∧
    (∀ (v0 : Value) (o : Nat) (r0 : Value) (r1 : Value) (h : mr_h) (Q : Option Value → mr_h → Prop), mr_wp 0 75 [v0] [.ref o, r0, r1] h Q = mr_run 9 [.ref o] h (fun v h' => mr_wp 0 78 [v0] (v.toList ++ [r0, r1]) h' Q)) ∧
    (∀ (v0 : Value) (a : Nat) (x : Nat) (st : List Value) (h : mr_h) (Q : Option Value → mr_h → Prop), mr_wp 0 78 [v0] (.ref x :: .ref a :: st) h Q = mr_pf (h.1 a) 10 6 (.ref x) (fun c => mr_wp 0 81 [v0] st (mr_up h a c) Q)) ∧
    (∀ (x : Nat) (st : List Value) (h : mr_h) (Q : Option Value → mr_h → Prop), mr_wp 0 81 [.ref x] st h Q = mr_wp 0 82 [.ref x] (.ref x :: st) h Q) ∧
    (∀ (v0 : Value) (st : List Value) (h : mr_h) (Q : Option Value → mr_h → Prop), mr_wp 0 82 [v0] st h Q = mr_wp 0 85 [v0] (.ref h.2.1 :: st) (mr_add h 6 (mr_O 1 (mr_dfs 1))) Q) ∧
    (∀ (v0 : Value) (x : Nat) (st : List Value) (h : mr_h) (Q : Option Value → mr_h → Prop), mr_wp 0 85 [v0] (.ref x :: st) h Q = mr_wp 0 86 [v0] (.ref x :: .ref x :: st) h Q) :=
  ⟨fun x st h Q => gx_one (i := .aload_n 0) (len := 1) (by decide +kernel) rfl,
   fun v0 a h Q => gx_obj (x := 1) (by decide +kernel) (by decide +kernel) (Nat.le_of_ble_eq_true rfl),
   fun x st h Q => gx_one (i := .aload_n 0) (len := 1) (by decide +kernel) rfl,
   fun v0 st h Q => gx_new (x := 7) (by decide +kernel) (by decide +kernel),
   fun v0 x st h Q => gx_one (i := .dup) (len := 1) (by decide +kernel) rfl,
   fun v0 o r0 r1 h Q => gx_ini (x := 9) (t := 1) (n := 0) (by decide +kernel) (by decide +kernel) (by decide) (by decide +kernel) rfl (Or.inl (Nat.le_of_ble_eq_true rfl)) (by show _ ≤ mr_mxl 1; rw [show mr_mxl 1 = 1 from by decide +kernel]; exact Nat.le_of_ble_eq_true rfl),
   fun v0 a x st h Q => gx_put (x := 10) (by decide +kernel) (by decide +kernel) ⟨rfl, Or.inr ⟨rfl, rfl⟩⟩,
   fun x st h Q => gx_one (i := .aload_n 0) (len := 1) (by decide +kernel) rfl,
   fun v0 st h Q => gx_new (x := 7) (by decide +kernel) (by decide +kernel),
   fun v0 x st h Q => gx_one (i := .dup) (len := 1) (by decide +kernel) rfl,
   fun v0 o r0 r1 h Q => gx_ini (x := 9) (t := 1) (n := 0) (by decide +kernel) (by decide +kernel) (by decide) (by decide +kernel) rfl (Or.inl (Nat.le_of_ble_eq_true rfl)) (by show _ ≤ mr_mxl 1; rw [show mr_mxl 1 = 1 from by decide +kernel]; exact Nat.le_of_ble_eq_true rfl),
   fun v0 a x st h Q => gx_put (x := 16) (by decide +kernel) (by decide +kernel) ⟨rfl, Or.inr ⟨rfl, rfl⟩⟩,
   fun x st h Q => gx_one (i := .aload_n 0) (len := 1) (by decide +kernel) rfl,
   fun v0 st h Q => gx_new (x := 19) (by decide +kernel) (by decide +kernel),
   fun v0 x st h Q => gx_one (i := .dup) (len := 1) (by decide +kernel) rfl,
   fun v0 o r0 r1 h Q => gx_ini (x := 21) (t := 5) (n := 0) (by decide +kernel) (by decide +kernel) (by decide) (by decide +kernel) rfl (Or.inl (Nat.le_of_ble_eq_true rfl)) (by show _ ≤ mr_mxl 5; rw [show mr_mxl 5 = 1 from by decide +kernel]; exact Nat.le_of_ble_eq_true rfl),
   fun v0 a x st h Q => gx_put (x := 22) (by decide +kernel) (by decide +kernel) ⟨rfl, Or.inr ⟨rfl, rfl⟩⟩,
   fun x st h Q => gx_one (i := .aload_n 0) (len := 1) (by decide +kernel) rfl,
   fun v0 st h Q => gx_new (x := 26) (by decide +kernel) (by decide +kernel),
   fun v0 x st h Q => gx_one (i := .dup) (len := 1) (by decide +kernel) rfl,
   fun v0 o r0 r1 h Q => gx_ini (x := 28) (t := 6) (n := 0) (by decide +kernel) (by decide +kernel) (by decide) (by decide +kernel) rfl (Or.inl (Nat.le_of_ble_eq_true rfl)) (by show _ ≤ mr_mxl 6; rw [show mr_mxl 6 = 1 from by decide +kernel]; exact Nat.le_of_ble_eq_true rfl),
   fun v0 a x st h Q => gx_put (x := 29) (by decide +kernel) (by decide +kernel) ⟨rfl, Or.inr ⟨rfl, rfl⟩⟩,
   fun x st h Q => gx_one (i := .aload_n 0) (len := 1) (by decide +kernel) rfl,
   fun v0 st h Q => gx_new (x := 33) (by decide +kernel) (by decide +kernel),
   fun v0 x st h Q => gx_one (i := .dup) (len := 1) (by decide +kernel) rfl,
   fun v0 o r0 r1 h Q => gx_ini (x := 35) (t := 7) (n := 0) (by decide +kernel) (by decide +kernel) (by decide) (by decide +kernel) rfl (Or.inl (Nat.le_of_ble_eq_true rfl)) (by show _ ≤ mr_mxl 7; rw [show mr_mxl 7 = 1 from by decide +kernel]; exact Nat.le_of_ble_eq_true rfl),
   fun v0 a x st h Q => gx_put (x := 36) (by decide +kernel) (by decide +kernel) ⟨rfl, Or.inr ⟨rfl, rfl⟩⟩,
   fun x st h Q => gx_one (i := .aload_n 0) (len := 1) (by decide +kernel) rfl,
   fun v0 st h Q => gx_new (x := 40) (by decide +kernel) (by decide +kernel),
   fun v0 x st h Q => gx_one (i := .dup) (len := 1) (by decide +kernel) rfl,
   fun v0 o r0 r1 h Q => gx_ini (x := 42) (t := 8) (n := 0) (by decide +kernel) (by decide +kernel) (by decide) (by decide +kernel) rfl (Or.inl (Nat.le_of_ble_eq_true rfl)) (by show _ ≤ mr_mxl 8; rw [show mr_mxl 8 = 1 from by decide +kernel]; exact Nat.le_of_ble_eq_true rfl),
   fun v0 a x st h Q => gx_put (x := 43) (by decide +kernel) (by decide +kernel) ⟨rfl, Or.inr ⟨rfl, rfl⟩⟩,
   fun x st h Q => gx_one (i := .aload_n 0) (len := 1) (by decide +kernel) rfl,
   fun v0 st h Q => gx_new (x := 47) (by decide +kernel) (by decide +kernel),
   fun v0 x st h Q => gx_one (i := .dup) (len := 1) (by decide +kernel) rfl,
   fun v0 o r0 r1 h Q => gx_ini (x := 49) (t := 9) (n := 0) (by decide +kernel) (by decide +kernel) (by decide) (by decide +kernel) rfl (Or.inl (Nat.le_of_ble_eq_true rfl)) (by show _ ≤ mr_mxl 9; rw [show mr_mxl 9 = 1 from by decide +kernel]; exact Nat.le_of_ble_eq_true rfl),
   fun v0 a x st h Q => gx_put (x := 50) (by decide +kernel) (by decide +kernel) ⟨rfl, Or.inr ⟨rfl, rfl⟩⟩,
   fun x st h Q => gx_one (i := .aload_n 0) (len := 1) (by decide +kernel) rfl,
   fun v0 st h Q => gx_new (x := 54) (by decide +kernel) (by decide +kernel),
   fun v0 x st h Q => gx_one (i := .dup) (len := 1) (by decide +kernel) rfl⟩
theorem S_rl_init_1 : (∀ (v0 : Value) (o : Nat) (r0 : Value) (r1 : Value) (h : mr_h) (Q : Option Value → mr_h → Prop), mr_wp 0 86 [v0] [.ref o, r0, r1] h Q = mr_run 10 [.ref o] h (fun v h' => mr_wp 0 89 [v0] (v.toList ++ [r0, r1]) h' Q)) ∧
    (∀ (v0 : Value) (a : Nat) (x : Nat) (st : List Value) (h : mr_h) (Q : Option Value → mr_h → Prop), mr_wp 0 89 [v0] (.ref x :: .ref a :: st) h Q = mr_pf (h.1 a) 10 7 (.ref x) (fun c => mr_wp 0 92 [v0] st (mr_up h a c) Q)) ∧
    (∀ (x : Nat) (st : List Value) (h : mr_h) (Q : Option Value → mr_h → Prop), mr_wp 0 92 [.ref x] st h Q = mr_wp 0 93 [.ref x] (.ref x :: st) h Q) ∧
    (∀ (v0 : Value) (st : List Value) (h : mr_h) (Q : Option Value → mr_h → Prop), mr_wp 0 93 [v0] st h Q = mr_wp 0 96 [v0] (.ref h.2.1 :: st) (mr_add h 6 (mr_O 8 (mr_dfs 8))) Q) ∧
    (∀ (v0 : Value) (x : Nat) (st : List Value) (h : mr_h) (Q : Option Value → mr_h → Prop), mr_wp 0 96 [v0] (.ref x :: st) h Q = mr_wp 0 97 [v0] (.ref x :: .ref x :: st) h Q) ∧
    (∀ (v0 : Value) (o : Nat) (r0 : Value) (r1 : Value) (h : mr_h) (Q : Option Value → mr_h → Prop), mr_wp 0 97 [v0] [.ref o, r0, r1] h Q = mr_run 11 [.ref o] h (fun v h' => mr_wp 0 100 [v0] (v.toList ++ [r0, r1]) h' Q)) ∧
    (∀ (v0 : Value) (a : Nat) (x : Nat) (st : List Value) (h : mr_h) (Q : Option Value → mr_h → Prop), mr_wp 0 100 [v0] (.ref x :: .ref a :: st) h Q = mr_pf (h.1 a) 10 8 (.ref x) (fun c => mr_wp 0 103 [v0] st (mr_up h a c) Q)) ∧
    (∀ (x : Nat) (st : List Value) (h : mr_h) (Q : Option Value → mr_h → Prop), mr_wp 0 103 [.ref x] st h Q = mr_wp 0 104 [.ref x] (.ref x :: st) h Q) ∧
    (∀ (v0 : Value) (st : List Value) (h : mr_h) (Q : Option Value → mr_h → Prop), mr_wp 0 104 [v0] st h Q = mr_wp 0 107 [v0] (.ref h.2.1 :: st) (mr_add h 2 (mr_O 4 (mr_dfs 4))) Q) ∧
    (∀ (v0 : Value) (x : Nat) (st : List Value) (h : mr_h) (Q : Option Value → mr_h → Prop), mr_wp 0 107 [v0] (.ref x :: st) h Q = mr_wp 0 108 [v0] (.ref x :: .ref x :: st) h Q) ∧
    (∀ (v0 : Value) (o : Nat) (r0 : Value) (r1 : Value) (h : mr_h) (Q : Option Value → mr_h → Prop), mr_wp 0 108 [v0] [.ref o, r0, r1] h Q = mr_run 12 [.ref o] h (fun v h' => mr_wp 0 111 [v0] (v.toList ++ [r0, r1]) h' Q)) ∧
    (∀ (v0 : Value) (a : Nat) (x : Nat) (st : List Value) (h : mr_h) (Q : Option Value → mr_h → Prop), mr_wp 0 111 [v0] (.ref x :: .ref a :: st) h Q = mr_pf (h.1 a) 10 9 (.ref x) (fun c => mr_wp 0 114 [v0] st (mr_up h a c) Q)) ∧
    (∀ (x : Nat) (st : List Value) (h : mr_h) (Q : Option Value → mr_h → Prop), mr_wp 0 114 [.ref x] st h Q = mr_wp 0 115 [.ref x] (.ref x :: st) h Q) ∧
    (∀ (v0 : Value) (st : List Value) (h : mr_h) (Q : Option Value → mr_h → Prop), mr_wp 0 115 [v0] st h Q = mr_wp 0 118 [v0] (.ref h.2.1 :: st) (mr_add h 2 (mr_O 0 (mr_dfs 0))) Q) ∧
    (∀ (v0 : Value) (x : Nat) (st : List Value) (h : mr_h) (Q : Option Value → mr_h → Prop), mr_wp 0 118 [v0] (.ref x :: st) h Q = mr_wp 0 119 [v0] (.ref x :: .ref x :: st) h Q) ∧
    (∀ (v0 : Value) (o : Nat) (r0 : Value) (r1 : Value) (h : mr_h) (Q : Option Value → mr_h → Prop), mr_wp 0 119 [v0] [.ref o, r0, r1] h Q = mr_run 13 [.ref o] h (fun v h' => mr_wp 0 122 [v0] (v.toList ++ [r0, r1]) h' Q)) ∧
    (∀ (v0 : Value) (a : Nat) (x : Nat) (st : List Value) (h : mr_h) (Q : Option Value → mr_h → Prop), mr_wp 0 122 [v0] (.ref x :: .ref a :: st) h Q = mr_pf (h.1 a) 10 10 (.ref x) (fun c => mr_wp 0 125 [v0] st (mr_up h a c) Q)) ∧
    (∀ (x : Nat) (st : List Value) (h : mr_h) (Q : Option Value → mr_h → Prop), mr_wp 0 125 [.ref x] st h Q = mr_wp 0 126 [.ref x] (.ref x :: st) h Q) ∧
    (∀ (v0 : Value) (a : Nat) (st : List Value) (h : mr_h) (Q : Option Value → mr_h → Prop), mr_wp 0 126 [v0] (.ref a :: st) h Q = mr_gf (h.1 a) 10 3 (fun v => mr_wp 0 129 [v0] (v :: st) h Q)) ∧
    (∀ (x : Nat) (st : List Value) (h : mr_h) (Q : Option Value → mr_h → Prop), mr_wp 0 129 [.ref x] st h Q = mr_wp 0 130 [.ref x] (.ref x :: st) h Q) ∧
    (∀ (v0 : Value) (a : Nat) (st : List Value) (h : mr_h) (Q : Option Value → mr_h → Prop), mr_wp 0 130 [v0] (.ref a :: st) h Q = mr_gf (h.1 a) 10 0 (fun v => mr_wp 0 133 [v0] (v :: st) h Q)) ∧
    (∀ (v0 : Value) (a0 : Nat) (o : Nat) (h : mr_h) (Q : Option Value → mr_h → Prop), mr_wp 0 133 [v0] [.ref a0, .ref o] h Q = mr_rc (h.1 o) 6 (mr_run 14 [.ref o, .ref a0] h (fun v h' => mr_wp 0 136 [v0] (v.toList ++ []) h' Q))) ∧
    (∀ (v0 : Value) (h : mr_h) (Q : Option Value → mr_h → Prop), mr_wp 0 136 [v0] [] h Q = Q none h) :=
  ⟨fun v0 o r0 r1 h Q => gx_ini (x := 56) (t := 10) (n := 0) (by decide +kernel) (by decide +kernel) (by decide) (by decide +kernel) rfl (Or.inl (Nat.le_of_ble_eq_true rfl)) (by show _ ≤ mr_mxl 10; rw [show mr_mxl 10 = 1 from by decide +kernel]; exact Nat.le_of_ble_eq_true rfl),
   fun v0 a x st h Q => gx_put (x := 57) (by decide +kernel) (by decide +kernel) ⟨rfl, Or.inr ⟨rfl, rfl⟩⟩,
   fun x st h Q => gx_one (i := .aload_n 0) (len := 1) (by decide +kernel) rfl,
   fun v0 st h Q => gx_new (x := 61) (by decide +kernel) (by decide +kernel),
   fun v0 x st h Q => gx_one (i := .dup) (len := 1) (by decide +kernel) rfl,
   fun v0 o r0 r1 h Q => gx_ini (x := 63) (t := 11) (n := 0) (by decide +kernel) (by decide +kernel) (by decide) (by decide +kernel) rfl (Or.inl (Nat.le_of_ble_eq_true rfl)) (by show _ ≤ mr_mxl 11; rw [show mr_mxl 11 = 1 from by decide +kernel]; exact Nat.le_of_ble_eq_true rfl),
   fun v0 a x st h Q => gx_put (x := 64) (by decide +kernel) (by decide +kernel) ⟨rfl, Or.inr ⟨rfl, rfl⟩⟩,
   fun x st h Q => gx_one (i := .aload_n 0) (len := 1) (by decide +kernel) rfl,
   fun v0 st h Q => gx_new (x := 68) (by decide +kernel) (by decide +kernel),
   fun v0 x st h Q => gx_one (i := .dup) (len := 1) (by decide +kernel) rfl,
   fun v0 o r0 r1 h Q => gx_ini (x := 70) (t := 12) (n := 0) (by decide +kernel) (by decide +kernel) (by decide) (by decide +kernel) rfl (Or.inl (Nat.le_of_ble_eq_true rfl)) (by show _ ≤ mr_mxl 12; rw [show mr_mxl 12 = 2 from by decide +kernel]; exact Nat.le_of_ble_eq_true rfl),
   fun v0 a x st h Q => gx_put (x := 71) (by decide +kernel) (by decide +kernel) ⟨rfl, Or.inr ⟨rfl, rfl⟩⟩,
   fun x st h Q => gx_one (i := .aload_n 0) (len := 1) (by decide +kernel) rfl,
   fun v0 st h Q => gx_new (x := 75) (by decide +kernel) (by decide +kernel),
   fun v0 x st h Q => gx_one (i := .dup) (len := 1) (by decide +kernel) rfl,
   fun v0 o r0 r1 h Q => gx_ini (x := 77) (t := 13) (n := 0) (by decide +kernel) (by decide +kernel) (by decide) (by decide +kernel) rfl (Or.inl (Nat.le_of_ble_eq_true rfl)) (by show _ ≤ mr_mxl 13; rw [show mr_mxl 13 = 2 from by decide +kernel]; exact Nat.le_of_ble_eq_true rfl),
   fun v0 a x st h Q => gx_put (x := 78) (by decide +kernel) (by decide +kernel) ⟨rfl, Or.inr ⟨rfl, rfl⟩⟩,
   fun x st h Q => gx_one (i := .aload_n 0) (len := 1) (by decide +kernel) rfl,
   fun v0 a st h Q => gx_get (x := 29) (by decide +kernel) (by decide +kernel),
   fun x st h Q => gx_one (i := .aload_n 0) (len := 1) (by decide +kernel) rfl,
   fun v0 a st h Q => gx_get (x := 10) (by decide +kernel) (by decide +kernel),
   fun v0 a0 o h Q => gx_virt (x := 82) (n := 1) (by decide +kernel) (by decide +kernel) rfl (Or.inl (Nat.le_of_ble_eq_true rfl)) (by show _ ≤ mr_mxl 14; rw [show mr_mxl 14 = 2 from by decide +kernel]; exact Nat.le_of_ble_eq_true rfl) (by decide +kernel),
   fun v0 h Q => gx_ret (i := .return_) (len := 1) (by decide +kernel) rfl rfl (by simp only [mr_rt, if_pos]; rw [if_pos (by decide +kernel)])⟩
theorem S_ne_init : (∀ (x : Nat) (st : List Value) (h : mr_h) (Q : Option Value → mr_h → Prop), mr_wp 1 0 [.ref x] st h Q = mr_wp 1 1 [.ref x] (.ref x :: st) h Q) ∧
    (∀ (v0 : Value) (a : Nat) (h : mr_h) (Q : Option Value → mr_h → Prop), mr_wp 1 1 [v0] [.ref a] h Q = mr_wp 1 4 [v0] [] h Q) ∧
    (∀ (x : Nat) (st : List Value) (h : mr_h) (Q : Option Value → mr_h → Prop), mr_wp 1 4 [.ref x] st h Q = mr_wp 1 5 [.ref x] (.ref x :: st) h Q) ∧
    (∀ (v0 : Value) (st : List Value) (h : mr_h) (Q : Option Value → mr_h → Prop), mr_wp 1 5 [v0] st h Q = mr_wp 1 7 [v0] (.int (12) :: st) h Q) ∧
    (∀ (v0 : Value) (st : List Value) (h : mr_h) (Q : Option Value → mr_h → Prop), mr_wp 1 7 [v0] (.int (12) :: st) h Q = mr_wp 1 9 [v0] (.ref h.2.1 :: st) (mr_add h 12 (mr_I 12 (fun _ => 0))) Q) ∧
    (∀ (v0 : Value) (a : Nat) (x : Nat) (st : List Value) (h : mr_h) (Q : Option Value → mr_h → Prop), mr_wp 1 9 [v0] (.ref x :: .ref a :: st) h Q = mr_pf (h.1 a) 3 1 (.ref x) (fun c => mr_wp 1 12 [v0] st (mr_up h a c) Q)) ∧
    (∀ (x : Nat) (st : List Value) (h : mr_h) (Q : Option Value → mr_h → Prop), mr_wp 1 12 [.ref x] st h Q = mr_wp 1 13 [.ref x] (.ref x :: st) h Q) ∧
    (∀ (v0 : Value) (st : List Value) (h : mr_h) (Q : Option Value → mr_h → Prop), mr_wp 1 13 [v0] st h Q = mr_wp 1 15 [v0] (.int (12) :: st) h Q) ∧
    (∀ (v0 : Value) (st : List Value) (h : mr_h) (Q : Option Value → mr_h → Prop), mr_wp 1 15 [v0] (.int (12) :: st) h Q = mr_wp 1 17 [v0] (.ref h.2.1 :: st) (mr_add h 12 (mr_I 12 (fun _ => 0))) Q) ∧
    (∀ (v0 : Value) (a : Nat) (x : Nat) (st : List Value) (h : mr_h) (Q : Option Value → mr_h → Prop), mr_wp 1 17 [v0] (.ref x :: .ref a :: st) h Q = mr_pf (h.1 a) 3 2 (.ref x) (fun c => mr_wp 1 20 [v0] st (mr_up h a c) Q)) ∧
    (∀ (x : Nat) (st : List Value) (h : mr_h) (Q : Option Value → mr_h → Prop), mr_wp 1 20 [.ref x] st h Q = mr_wp 1 21 [.ref x] (.ref x :: st) h Q) ∧
    (∀ (v0 : Value) (o : Nat) (h : mr_h) (Q : Option Value → mr_h → Prop), mr_wp 1 21 [v0] [.ref o] h Q = mr_rc (h.1 o) 3 (mr_run 2 [.ref o] h (fun v h' => mr_wp 1 24 [v0] (v.toList ++ []) h' Q))) ∧
    (∀ (x : Nat) (st : List Value) (h : mr_h) (Q : Option Value → mr_h → Prop), mr_wp 1 24 [.ref x] st h Q = mr_wp 1 25 [.ref x] (.ref x :: st) h Q) ∧
    (∀ (v0 : Value) (st : List Value) (h : mr_h) (Q : Option Value → mr_h → Prop), mr_wp 1 25 [v0] st h Q = mr_wp 1 26 [v0] (.int (0) :: st) h Q) ∧
    (∀ (v0 : Value) (a0 : Int32) (o : Nat) (h : mr_h) (Q : Option Value → mr_h → Prop), mr_wp 1 26 [v0] [.int a0, .ref o] h Q = mr_rc (h.1 o) 3 (mr_run 3 [.ref o, .int a0] h (fun v h' => mr_wp 1 29 [v0] (v.toList ++ []) h' Q))) ∧
    (∀ (v0 : Value) (h : mr_h) (Q : Option Value → mr_h → Prop), mr_wp 1 29 [v0] [] h Q = Q none h) :=
  ⟨fun x st h Q => gx_one (i := .aload_n 0) (len := 1) (by decide +kernel) rfl,
   fun v0 a h Q => gx_obj (x := 3) (by decide +kernel) (by decide +kernel) (Nat.le_of_ble_eq_true rfl),
   fun x st h Q => gx_one (i := .aload_n 0) (len := 1) (by decide +kernel) rfl,
   fun v0 st h Q => gx_one (i := .bipush 12) (len := 2) (by decide +kernel) rfl,
   fun v0 st h Q => gx_one (i := .newarray .int) (len := 2) (by decide +kernel) (by simp only [mr_one, mr_nar]; rw [if_pos trivial, if_neg (by decide)]; rfl),
   fun v0 a x st h Q => gx_put (x := 9) (by decide +kernel) (by decide +kernel) ⟨rfl, Or.inr ⟨rfl, rfl⟩⟩,
   fun x st h Q => gx_one (i := .aload_n 0) (len := 1) (by decide +kernel) rfl,
   fun v0 st h Q => gx_one (i := .bipush 12) (len := 2) (by decide +kernel) rfl,
   fun v0 st h Q => gx_one (i := .newarray .int) (len := 2) (by decide +kernel) (by simp only [mr_one, mr_nar]; rw [if_pos trivial, if_neg (by decide)]; rfl),
   fun v0 a x st h Q => gx_put (x := 15) (by decide +kernel) (by decide +kernel) ⟨rfl, Or.inr ⟨rfl, rfl⟩⟩,
   fun x st h Q => gx_one (i := .aload_n 0) (len := 1) (by decide +kernel) rfl,
   fun v0 o h Q => gx_virt (x := 18) (n := 0) (by decide +kernel) (by decide +kernel) rfl (Or.inl (Nat.le_of_ble_eq_true rfl)) (by show _ ≤ mr_mxl 2; rw [show mr_mxl 2 = 2 from by decide +kernel]; exact Nat.le_of_ble_eq_true rfl) (by decide +kernel),
   fun x st h Q => gx_one (i := .aload_n 0) (len := 1) (by decide +kernel) rfl,
   fun v0 st h Q => gx_one (i := .iconst 0) (len := 1) (by decide +kernel) rfl,
   fun v0 a0 o h Q => gx_virt (x := 21) (n := 1) (by decide +kernel) (by decide +kernel) rfl (Or.inl (Nat.le_of_ble_eq_true rfl)) (by show _ ≤ mr_mxl 3; rw [show mr_mxl 3 = 4 from by decide +kernel]; exact Nat.le_of_ble_eq_true rfl) (by decide +kernel),
   fun v0 h Q => gx_ret (i := .return_) (len := 1) (by decide +kernel) rfl rfl (by simp only [mr_rt, if_pos]; rw [if_pos (by decide +kernel)])⟩
theorem S_sc_init : (∀ (x : Nat) (st : List Value) (h : mr_h) (Q : Option Value → mr_h → Prop), mr_wp 5 0 [.ref x] st h Q = mr_wp 5 1 [.ref x] (.ref x :: st) h Q) ∧
    (∀ (v0 : Value) (a : Nat) (h : mr_h) (Q : Option Value → mr_h → Prop), mr_wp 5 1 [v0] [.ref a] h Q = mr_wp 5 4 [v0] [] h Q) ∧
    (∀ (x : Nat) (st : List Value) (h : mr_h) (Q : Option Value → mr_h → Prop), mr_wp 5 4 [.ref x] st h Q = mr_wp 5 5 [.ref x] (.ref x :: st) h Q) ∧
    (∀ (v0 : Value) (st : List Value) (h : mr_h) (Q : Option Value → mr_h → Prop), mr_wp 5 5 [v0] st h Q = mr_wp 5 6 [v0] (.int (0) :: st) h Q) ∧
    (∀ (v0 : Value) (a : Nat) (x : Int32) (st : List Value) (h : mr_h) (Q : Option Value → mr_h → Prop), mr_wp 5 6 [v0] (.int x :: .ref a :: st) h Q = mr_pf (h.1 a) 7 0 (.int x) (fun c => mr_wp 5 9 [v0] st (mr_up h a c) Q)) ∧
    (∀ (x : Nat) (st : List Value) (h : mr_h) (Q : Option Value → mr_h → Prop), mr_wp 5 9 [.ref x] st h Q = mr_wp 5 10 [.ref x] (.ref x :: st) h Q) ∧
    (∀ (v0 : Value) (st : List Value) (h : mr_h) (Q : Option Value → mr_h → Prop), mr_wp 5 10 [v0] st h Q = mr_wp 5 12 [v0] (.int (120) :: st) h Q) ∧
    (∀ (v0 : Value) (st : List Value) (h : mr_h) (Q : Option Value → mr_h → Prop), mr_wp 5 12 [v0] (.int (120) :: st) h Q = mr_wp 5 14 [v0] (.ref h.2.1 :: st) (mr_add h 120 (mr_I 120 (fun _ => 0))) Q) ∧
    (∀ (v0 : Value) (a : Nat) (x : Nat) (st : List Value) (h : mr_h) (Q : Option Value → mr_h → Prop), mr_wp 5 14 [v0] (.ref x :: .ref a :: st) h Q = mr_pf (h.1 a) 7 1 (.ref x) (fun c => mr_wp 5 17 [v0] st (mr_up h a c) Q)) ∧
    (∀ (x : Nat) (st : List Value) (h : mr_h) (Q : Option Value → mr_h → Prop), mr_wp 5 17 [.ref x] st h Q = mr_wp 5 18 [.ref x] (.ref x :: st) h Q) ∧
    (∀ (v0 : Value) (st : List Value) (h : mr_h) (Q : Option Value → mr_h → Prop), mr_wp 5 18 [v0] st h Q = mr_wp 5 19 [v0] (.int (0) :: st) h Q) ∧
    (∀ (v0 : Value) (a : Nat) (x : Int32) (st : List Value) (h : mr_h) (Q : Option Value → mr_h → Prop), mr_wp 5 19 [v0] (.int x :: .ref a :: st) h Q = mr_pf (h.1 a) 7 2 (.int x) (fun c => mr_wp 5 22 [v0] st (mr_up h a c) Q)) ∧
    (∀ (x : Nat) (st : List Value) (h : mr_h) (Q : Option Value → mr_h → Prop), mr_wp 5 22 [.ref x] st h Q = mr_wp 5 23 [.ref x] (.ref x :: st) h Q) ∧
    (∀ (v0 : Value) (st : List Value) (h : mr_h) (Q : Option Value → mr_h → Prop), mr_wp 5 23 [v0] st h Q = mr_wp 5 24 [v0] (.int (0) :: st) h Q) ∧
    (∀ (v0 : Value) (a : Nat) (x : Int32) (st : List Value) (h : mr_h) (Q : Option Value → mr_h → Prop), mr_wp 5 24 [v0] (.int x :: .ref a :: st) h Q = mr_pf (h.1 a) 7 3 (.int x) (fun c => mr_wp 5 27 [v0] st (mr_up h a c) Q)) ∧
    (∀ (x : Nat) (st : List Value) (h : mr_h) (Q : Option Value → mr_h → Prop), mr_wp 5 27 [.ref x] st h Q = mr_wp 5 28 [.ref x] (.ref x :: st) h Q) ∧
    (∀ (v0 : Value) (st : List Value) (h : mr_h) (Q : Option Value → mr_h → Prop), mr_wp 5 28 [v0] st h Q = mr_wp 5 30 [v0] (.int (-2) :: st) h Q) ∧
    (∀ (v0 : Value) (a : Nat) (x : Int32) (st : List Value) (h : mr_h) (Q : Option Value → mr_h → Prop), mr_wp 5 30 [v0] (.int x :: .ref a :: st) h Q = mr_pf (h.1 a) 7 4 (.int x) (fun c => mr_wp 5 33 [v0] st (mr_up h a c) Q)) ∧
    (∀ (x : Nat) (st : List Value) (h : mr_h) (Q : Option Value → mr_h → Prop), mr_wp 5 33 [.ref x] st h Q = mr_wp 5 34 [.ref x] (.ref x :: st) h Q) ∧
    (∀ (v0 : Value) (st : List Value) (h : mr_h) (Q : Option Value → mr_h → Prop), mr_wp 5 34 [v0] st h Q = mr_wp 5 35 [v0] (.int (0) :: st) h Q) ∧
    (∀ (v0 : Value) (a : Nat) (x : Int32) (st : List Value) (h : mr_h) (Q : Option Value → mr_h → Prop), mr_wp 5 35 [v0] (.int x :: .ref a :: st) h Q = mr_pf (h.1 a) 7 5 (.int x) (fun c => mr_wp 5 38 [v0] st (mr_up h a c) Q)) ∧
    (∀ (x : Nat) (st : List Value) (h : mr_h) (Q : Option Value → mr_h → Prop), mr_wp 5 38 [.ref x] st h Q = mr_wp 5 39 [.ref x] (.ref x :: st) h Q) ∧
    (∀ (v0 : Value) (st : List Value) (h : mr_h) (Q : Option Value → mr_h → Prop), mr_wp 5 39 [v0] st h Q = mr_wp 5 40 [v0] (.int (0) :: st) h Q) ∧
    (∀ (v0 : Value) (a : Nat) (x : Int32) (st : List Value) (h : mr_h) (Q : Option Value → mr_h → Prop), mr_wp 5 40 [v0] (.int x :: .ref a :: st) h Q = mr_pf (h.1 a) 7 6 (.int x) (fun c => mr_wp 5 43 [v0] st (mr_up h a c) Q)) ∧
    (∀ (v0 : Value) (h : mr_h) (Q : Option Value → mr_h → Prop), mr_wp 5 43 [v0] [] h Q = Q none h) :=
  ⟨fun x st h Q => gx_one (i := .aload_n 0) (len := 1) (by decide +kernel) rfl,
   fun v0 a h Q => gx_obj (x := 3) (by decide +kernel) (by decide +kernel) (Nat.le_of_ble_eq_true rfl),
   fun x st h Q => gx_one (i := .aload_n 0) (len := 1) (by decide +kernel) rfl,
   fun v0 st h Q => gx_one (i := .iconst 0) (len := 1) (by decide +kernel) rfl,
   fun v0 a x st h Q => gx_put (x := 9) (by decide +kernel) (by decide +kernel) ⟨rfl, Or.inl rfl⟩,
   fun x st h Q => gx_one (i := .aload_n 0) (len := 1) (by decide +kernel) rfl,
   fun v0 st h Q => gx_one (i := .bipush 120) (len := 2) (by decide +kernel) rfl,
   fun v0 st h Q => gx_one (i := .newarray .int) (len := 2) (by decide +kernel) (by simp only [mr_one, mr_nar]; rw [if_pos trivial, if_neg (by decide)]; rfl),
   fun v0 a x st h Q => gx_put (x := 15) (by decide +kernel) (by decide +kernel) ⟨rfl, Or.inr ⟨rfl, rfl⟩⟩,
   fun x st h Q => gx_one (i := .aload_n 0) (len := 1) (by decide +kernel) rfl,
   fun v0 st h Q => gx_one (i := .iconst 0) (len := 1) (by decide +kernel) rfl,
   fun v0 a x st h Q => gx_put (x := 19) (by decide +kernel) (by decide +kernel) ⟨rfl, Or.inl rfl⟩,
   fun x st h Q => gx_one (i := .aload_n 0) (len := 1) (by decide +kernel) rfl,
   fun v0 st h Q => gx_one (i := .iconst 0) (len := 1) (by decide +kernel) rfl,
   fun v0 a x st h Q => gx_put (x := 22) (by decide +kernel) (by decide +kernel) ⟨rfl, Or.inl rfl⟩,
   fun x st h Q => gx_one (i := .aload_n 0) (len := 1) (by decide +kernel) rfl,
   fun v0 st h Q => gx_one (i := .bipush (-2)) (len := 2) (by decide +kernel) rfl,
   fun v0 a x st h Q => gx_put (x := 25) (by decide +kernel) (by decide +kernel) ⟨rfl, Or.inl rfl⟩,
   fun x st h Q => gx_one (i := .aload_n 0) (len := 1) (by decide +kernel) rfl,
   fun v0 st h Q => gx_one (i := .iconst 0) (len := 1) (by decide +kernel) rfl,
   fun v0 a x st h Q => gx_put (x := 28) (by decide +kernel) (by decide +kernel) ⟨rfl, Or.inl rfl⟩,
   fun x st h Q => gx_one (i := .aload_n 0) (len := 1) (by decide +kernel) rfl,
   fun v0 st h Q => gx_one (i := .iconst 0) (len := 1) (by decide +kernel) rfl,
   fun v0 a x st h Q => gx_put (x := 31) (by decide +kernel) (by decide +kernel) ⟨rfl, Or.inl rfl⟩,
   fun v0 h Q => gx_ret (i := .return_) (len := 1) (by decide +kernel) rfl rfl (by simp only [mr_rt, if_pos]; rw [if_pos (by decide +kernel)])⟩
theorem S_re_init_0 : (∀ (x : Nat) (st : List Value) (h : mr_h) (Q : Option Value → mr_h → Prop), mr_wp 6 0 [.ref x] st h Q = mr_wp 6 1 [.ref x] (.ref x :: st) h Q) ∧
    (∀ (v0 : Value) (a : Nat) (h : mr_h) (Q : Option Value → mr_h → Prop), mr_wp 6 1 [v0] [.ref a] h Q = mr_wp 6 4 [v0] [] h Q) ∧
    (∀ (x : Nat) (st : List Value) (h : mr_h) (Q : Option Value → mr_h → Prop), mr_wp 6 4 [.ref x] st h Q = mr_wp 6 5 [.ref x] (.ref x :: st) h Q) ∧
    (∀ (v0 : Value) (st : List Value) (h : mr_h) (Q : Option Value → mr_h → Prop), mr_wp 6 5 [v0] st h Q = mr_wp 6 7 [v0] (.int (12) :: st) h Q) ∧
    (∀ (v0 : Value) (st : List Value) (h : mr_h) (Q : Option Value → mr_h → Prop), mr_wp 6 7 [v0] (.int (12) :: st) h Q = mr_wp 6 9 [v0] (.ref h.2.1 :: st) (mr_add h 12 (mr_I 12 (fun _ => 0))) Q) ∧
    (∀ (v0 : Value) (a : Nat) (x : Nat) (st : List Value) (h : mr_h) (Q : Option Value → mr_h → Prop), mr_wp 6 9 [v0] (.ref x :: .ref a :: st) h Q = mr_pf (h.1 a) 6 0 (.ref x) (fun c => mr_wp 6 12 [v0] st (mr_up h a c) Q)) ∧
    (∀ (x : Nat) (st : List Value) (h : mr_h) (Q : Option Value → mr_h → Prop), mr_wp 6 12 [.ref x] st h Q = mr_wp 6 13 [.ref x] (.ref x :: st) h Q) ∧
    (∀ (v0 : Value) (st : List Value) (h : mr_h) (Q : Option Value → mr_h → Prop), mr_wp 6 13 [v0] st h Q = mr_wp 6 15 [v0] (.int (12) :: st) h Q) ∧
    (∀ (v0 : Value) (st : List Value) (h : mr_h) (Q : Option Value → mr_h → Prop), mr_wp 6 15 [v0] (.int (12) :: st) h Q = mr_wp 6 17 [v0] (.ref h.2.1 :: st) (mr_add h 12 (mr_I 12 (fun _ => 0))) Q) ∧
    (∀ (v0 : Value) (a : Nat) (x : Nat) (st : List Value) (h : mr_h) (Q : Option Value → mr_h → Prop), mr_wp 6 17 [v0] (.ref x :: .ref a :: st) h Q = mr_pf (h.1 a) 6 1 (.ref x) (fun c => mr_wp 6 20 [v0] st (mr_up h a c) Q)) ∧
    (∀ (x : Nat) (st : List Value) (h : mr_h) (Q : Option Value → mr_h → Prop), mr_wp 6 20 [.ref x] st h Q = mr_wp 6 21 [.ref x] (.ref x :: st) h Q) ∧
    (∀ (v0 : Value) (st : List Value) (h : mr_h) (Q : Option Value → mr_h → Prop), mr_wp 6 21 [v0] st h Q = mr_wp 6 23 [v0] (.int (12) :: st) h Q) ∧
    (∀ (v0 : Value) (st : List Value) (h : mr_h) (Q : Option Value → mr_h → Prop), mr_wp 6 23 [v0] (.int (12) :: st) h Q = mr_wp 6 25 [v0] (.ref h.2.1 :: st) (mr_add h 12 (mr_I 12 (fun _ => 0))) Q) ∧
    (∀ (v0 : Value) (a : Nat) (x : Nat) (st : List Value) (h : mr_h) (Q : Option Value → mr_h → Prop), mr_wp 6 25 [v0] (.ref x :: .ref a :: st) h Q = mr_pf (h.1 a) 6 2 (.ref x) (fun c => mr_wp 6 28 [v0] st (mr_up h a c) Q)) ∧
    (∀ (x : Nat) (st : List Value) (h : mr_h) (Q : Option Value → mr_h → Prop), mr_wp 6 28 [.ref x] st h Q = mr_wp 6 29 [.ref x] (.ref x :: st) h Q) ∧
    (∀ (v0 : Value) (st : List Value) (h : mr_h) (Q : Option Value → mr_h → Prop), mr_wp 6 29 [v0] st h Q = mr_wp 6 31 [v0] (.int (12) :: st) h Q) ∧
    (∀ (v0 : Value) (st : List Value) (h : mr_h) (Q : Option Value → mr_h → Prop), mr_wp 6 31 [v0] (.int (12) :: st) h Q = mr_wp 6 33 [v0] (.ref h.2.1 :: st) (mr_add h 12 (mr_I 12 (fun _ => 0))) Q) ∧
    (∀ (v0 : Value) (a : Nat) (x : Nat) (st : List Value) (h : mr_h) (Q : Option Value → mr_h → Prop), mr_wp 6 33 [v0] (.ref x :: .ref a :: st) h Q = mr_pf (h.1 a) 6 3 (.ref x) (fun c => mr_wp 6 36 [v0] st (mr_up h a c) Q)) ∧
    (∀ (x : Nat) (st : List Value) (h : mr_h) (Q : Option Value → mr_h → Prop), mr_wp 6 36 [.ref x] st h Q = mr_wp 6 37 [.ref x] (.ref x :: st) h Q) ∧
    (∀ (v0 : Value) (st : List Value) (h : mr_h) (Q : Option Value → mr_h → Prop), mr_wp 6 37 [v0] st h Q = mr_wp 6 39 [v0] (.int (12) :: st) h Q) ∧
    (∀ (v0 : Value) (st : List Value) (h : mr_h) (Q : Option Value → mr_h → Prop), mr_wp 6 39 [v0] (.int (12) :: st) h Q = mr_wp 6 41 [v0] (.ref h.2.1 :: st) (mr_add h 12 (mr_I 12 (fun _ => 0))) Q) ∧
    (∀ (v0 : Value) (a : Nat) (x : Nat) (st : List Value) (h : mr_h) (Q : Option Value → mr_h → Prop), mr_wp 6 41 [v0] (.ref x :: .ref a :: st) h Q = mr_pf (h.1 a) 6 4 (.ref x) (fun c => mr_wp 6 44 [v0] st (mr_up h a c) Q)) ∧
    (∀ (x : Nat) (st : List Value) (h : mr_h) (Q : Option Value → mr_h → Prop), mr_wp 6 44 [.ref x] st h Q = mr_wp 6 45 [.ref x] (.ref x :: st) h Q) ∧
    (∀ (v0 : Value) (st : List Value) (h : mr_h) (Q : Option Value → mr_h → Prop), mr_wp 6 45 [v0] st h Q = mr_wp 6 47 [v0] (.int (12) :: st) h Q) ∧
    (∀ (v0 : Value) (st : List Value) (h : mr_h) (Q : Option Value → mr_h → Prop), mr_wp 6 47 [v0] (.int (12) :: st) h Q = mr_wp 6 49 [v0] (.ref h.2.1 :: st) (mr_add h 12 (mr_I 12 (fun _ => 0))) Q) ∧
    (∀ (v0 : Value) (a : Nat) (x : Nat) (st : List Value) (h : mr_h) (Q : Option Value → mr_h → Prop), mr_wp 6 49 [v0] (.ref x :: .ref a :: st) h Q = mr_pf (h.1 a) 6 5 (.ref x) (fun c => mr_wp 6 52 [v0] st (mr_up h a c) Q)) ∧
    (∀ (x : Nat) (st : List Value) (h : mr_h) (Q : Option Value → mr_h → Prop), mr_wp 6 52 [.ref x] st h Q = mr_wp 6 53 [.ref x] (.ref x :: st) h Q) ∧
    (∀ (v0 : Value) (st : List Value) (h : mr_h) (Q : Option Value → mr_h → Prop), mr_wp 6 53 [v0] st h Q = mr_wp 6 55 [v0] (.int (12) :: st) h Q) ∧
    (∀ (v0 : Value) (st : List Value) (h : mr_h) (Q : Option Value → mr_h → Prop), mr_wp 6 55 [v0] (.int (12) :: st) h Q = mr_wp 6 57 [v0] (.ref h.2.1 :: st) (mr_add h 12 (mr_I 12 (fun _ => 0))) Q) ∧
    (∀ (v0 : Value) (a : Nat) (x : Nat) (st : List Value) (h : mr_h) (Q : Option Value → mr_h → Prop), mr_wp 6 57 [v0] (.ref x :: .ref a :: st) h Q = mr_pf (h.1 a) 6 6 (.ref x) (fun c => mr_wp 6 60 [v0] st (mr_up h a c) Q)) ∧
    (∀ (x : Nat) (st : List Value) (h : mr_h) (Q : Option Value → mr_h → Prop), mr_wp 6 60 [.ref x] st h Q = mr_wp 6 61 [.ref x] (.ref x :: st) h Q) ∧
    (∀ (v0 : Value) (st : List Value) (h : mr_h) (Q : Option Value → mr_h → Prop), mr_wp 6 61 [v0] st h Q = mr_wp 6 63 [v0] (.int (12) :: st) h Q) ∧
    (∀ (v0 : Value) (st : List Value) (h : mr_h) (Q : Option Value → mr_h → Prop), mr_wp 6 63 [v0] (.int (12) :: st) h Q = mr_wp 6 65 [v0] (.ref h.2.1 :: st) (mr_add h 12 (mr_I 12 (fun _ => 0))) Q) ∧
    (∀ (v0 : Value) (a : Nat) (x : Nat) (st : List Value) (h : mr_h) (Q : Option Value → mr_h → Prop), mr_wp 6 65 [v0] (.ref x :: .ref a :: st) h Q = mr_pf (h.1 a) 6 7 (.ref x) (fun c => mr_wp 6 68 [v0] st (mr_up h a c) Q)) ∧
    (∀ (x : Nat) (st : List Value) (h : mr_h) (Q : Option Value → mr_h → Prop), mr_wp 6 68 [.ref x] st h Q = mr_wp 6 69 [.ref x] (.ref x :: st) h Q) ∧
    (∀ (v0 : Value) (st : List Value) (h : mr_h) (Q : Option Value → mr_h → Prop), mr_wp 6 69 [v0] st h Q = mr_wp 6 70 [v0] (.int (0) :: st) h Q) ∧
    (∀ (v0 : Value) (a : Nat) (x : Int32) (st : List Value) (h : mr_h) (Q : Option Value → mr_h → Prop), mr_wp 6 70 [v0] (.int x :: .ref a :: st) h Q = mr_pf (h.1 a) 6 8 (.int x) (fun c => mr_wp 6 73 [v0] st (mr_up h a c) Q)) ∧
    (∀ (x : Nat) (st : List Value) (h : mr_h) (Q : Option Value → mr_h → Prop), mr_wp 6 73 [.ref x] st h Q = mr_wp 6 74 [.ref x] (.ref x :: st) h Q) ∧
    (∀ (v0 : Value) (st : List Value) (h : mr_h) (Q : Option Value → mr_h → Prop), mr_wp 6 74 [v0] st h Q = mr_wp 6 75 [v0] (.int (0) :: st) h Q) ∧
    (∀ (v0 : Value) (a : Nat) (x : Int32) (st : List Value) (h : mr_h) (Q : Option Value → mr_h → Prop), mr_wp 6 75 [v0] (.int x :: .ref a :: st) h Q = mr_pf (h.1 a) 6 9 (.int x) (fun c => mr_wp 6 78 [v0] st (mr_up h a c) Q)) :=
  ⟨fun x st h Q => gx_one (i := .aload_n 0) (len := 1) (by decide +kernel) rfl,
   fun v0 a h Q => gx_obj (x := 3) (by decide +kernel) (by decide +kernel) (Nat.le_of_ble_eq_true rfl),
   fun x st h Q => gx_one (i := .aload_n 0) (len := 1) (by decide +kernel) rfl,
   fun v0 st h Q => gx_one (i := .bipush 12) (len := 2) (by decide +kernel) rfl,
   fun v0 st h Q => gx_one (i := .newarray .int) (len := 2) (by decide +kernel) (by simp only [mr_one, mr_nar]; rw [if_pos trivial, if_neg (by decide)]; rfl),
   fun v0 a x st h Q => gx_put (x := 9) (by decide +kernel) (by decide +kernel) ⟨rfl, Or.inr ⟨rfl, rfl⟩⟩,
   fun x st h Q => gx_one (i := .aload_n 0) (len := 1) (by decide +kernel) rfl,
   fun v0 st h Q => gx_one (i := .bipush 12) (len := 2) (by decide +kernel) rfl,
   fun v0 st h Q => gx_one (i := .newarray .int) (len := 2) (by decide +kernel) (by simp only [mr_one, mr_nar]; rw [if_pos trivial, if_neg (by decide)]; rfl),
   fun v0 a x st h Q => gx_put (x := 15) (by decide +kernel) (by decide +kernel) ⟨rfl, Or.inr ⟨rfl, rfl⟩⟩,
   fun x st h Q => gx_one (i := .aload_n 0) (len := 1) (by decide +kernel) rfl,
   fun v0 st h Q => gx_one (i := .bipush 12) (len := 2) (by decide +kernel) rfl,
   fun v0 st h Q => gx_one (i := .newarray .int) (len := 2) (by decide +kernel) (by simp only [mr_one, mr_nar]; rw [if_pos trivial, if_neg (by decide)]; rfl),
   fun v0 a x st h Q => gx_put (x := 18) (by decide +kernel) (by decide +kernel) ⟨rfl, Or.inr ⟨rfl, rfl⟩⟩,
   fun x st h Q => gx_one (i := .aload_n 0) (len := 1) (by decide +kernel) rfl,
   fun v0 st h Q => gx_one (i := .bipush 12) (len := 2) (by decide +kernel) rfl,
   fun v0 st h Q => gx_one (i := .newarray .int) (len := 2) (by decide +kernel) (by simp only [mr_one, mr_nar]; rw [if_pos trivial, if_neg (by decide)]; rfl),
   fun v0 a x st h Q => gx_put (x := 21) (by decide +kernel) (by decide +kernel) ⟨rfl, Or.inr ⟨rfl, rfl⟩⟩,
   fun x st h Q => gx_one (i := .aload_n 0) (len := 1) (by decide +kernel) rfl,
   fun v0 st h Q => gx_one (i := .bipush 12) (len := 2) (by decide +kernel) rfl,
   fun v0 st h Q => gx_one (i := .newarray .int) (len := 2) (by decide +kernel) (by simp only [mr_one, mr_nar]; rw [if_pos trivial, if_neg (by decide)]; rfl),
   fun v0 a x st h Q => gx_put (x := 24) (by decide +kernel) (by decide +kernel) ⟨rfl, Or.inr ⟨rfl, rfl⟩⟩,
   fun x st h Q => gx_one (i := .aload_n 0) (len := 1) (by decide +kernel) rfl,
   fun v0 st h Q => gx_one (i := .bipush 12) (len := 2) (by decide +kernel) rfl,
   fun v0 st h Q => gx_one (i := .newarray .int) (len := 2) (by decide +kernel) (by simp only [mr_one, mr_nar]; rw [if_pos trivial, if_neg (by decide)]; rfl),
   fun v0 a x st h Q => gx_put (x := 27) (by decide +kernel) (by decide +kernel) ⟨rfl, Or.inr ⟨rfl, rfl⟩⟩,
   fun x st h Q => gx_one (i := .aload_n 0) (len := 1) (by decide +kernel) rfl,
   fun v0 st h Q => gx_one (i := .bipush 12) (len := 2) (by decide +kernel) rfl,
   fun v0 st h Q => gx_one (i := .newarray .int) (len := 2) (by decide +kernel) (by simp only [mr_one, mr_nar]; rw [if_pos trivial, if_neg (by decide)]; rfl),
   fun v0 a x st h Q => gx_put (x := 30) (by decide +kernel) (by decide +kernel) ⟨rfl, Or.inr ⟨rfl, rfl⟩⟩,
   fun x st h Q => gx_one (i := .aload_n 0) (len := 1) (by decide +kernel) rfl,
   fun v0 st h Q => gx_one (i := .bipush 12) (len := 2) (by decide +kernel) rfl,
   fun v0 st h Q => gx_one (i := .newarray .int) (len := 2) (by decide +kernel) (by simp only [mr_one, mr_nar]; rw [if_pos trivial, if_neg (by decide)]; rfl),
   fun v0 a x st h Q => gx_put (x := 33) (by decide +kernel) (by decide +kernel) ⟨rfl, Or.inr ⟨rfl, rfl⟩⟩,
   fun x st h Q => gx_one (i := .aload_n 0) (len := 1) (by decide +kernel) rfl,
   fun v0 st h Q => gx_one (i := .iconst 0) (len := 1) (by decide +kernel) rfl,
   fun v0 a x st h Q => gx_put (x := 36) (by decide +kernel) (by decide +kernel) ⟨rfl, Or.inl rfl⟩,
   fun x st h Q => gx_one (i := .aload_n 0) (len := 1) (by decide +kernel) rfl,
   fun v0 st h Q => gx_one (i := .iconst 0) (len := 1) (by decide +kernel) rfl,
   fun v0 a x st h Q => gx_put (x := 40) (by decide +kernel) (by decide +kernel) ⟨rfl, Or.inl rfl⟩⟩
theorem S_re_init_1 : (∀ (v0 : Value) (h : mr_h) (Q : Option Value → mr_h → Prop), mr_wp 6 78 [v0] [] h Q = Q none h) :=
  fun v0 h Q => gx_ret (i := .return_) (len := 1) (by decide +kernel) rfl rfl (by simp only [mr_rt, if_pos]; rw [if_pos (by decide +kernel)])
theorem S_ra_init : (∀ (x : Nat) (st : List Value) (h : mr_h) (Q : Option Value → mr_h → Prop), mr_wp 7 0 [.ref x] st h Q = mr_wp 7 1 [.ref x] (.ref x :: st) h Q) ∧
    (∀ (v0 : Value) (a : Nat) (h : mr_h) (Q : Option Value → mr_h → Prop), mr_wp 7 1 [v0] [.ref a] h Q = mr_wp 7 4 [v0] [] h Q) ∧
    (∀ (x : Nat) (st : List Value) (h : mr_h) (Q : Option Value → mr_h → Prop), mr_wp 7 4 [.ref x] st h Q = mr_wp 7 5 [.ref x] (.ref x :: st) h Q) ∧
    (∀ (v0 : Value) (st : List Value) (h : mr_h) (Q : Option Value → mr_h → Prop), mr_wp 7 5 [v0] st h Q = mr_wp 7 7 [v0] (.int (12) :: st) h Q) ∧
    (∀ (v0 : Value) (st : List Value) (h : mr_h) (Q : Option Value → mr_h → Prop), mr_wp 7 7 [v0] (.int (12) :: st) h Q = mr_wp 7 9 [v0] (.ref h.2.1 :: st) (mr_add h 12 (mr_I 12 (fun _ => 0))) Q) ∧
    (∀ (v0 : Value) (a : Nat) (x : Nat) (st : List Value) (h : mr_h) (Q : Option Value → mr_h → Prop), mr_wp 7 9 [v0] (.ref x :: .ref a :: st) h Q = mr_pf (h.1 a) 5 0 (.ref x) (fun c => mr_wp 7 12 [v0] st (mr_up h a c) Q)) ∧
    (∀ (v0 : Value) (h : mr_h) (Q : Option Value → mr_h → Prop), mr_wp 7 12 [v0] [] h Q = Q none h) :=
  ⟨fun x st h Q => gx_one (i := .aload_n 0) (len := 1) (by decide +kernel) rfl,
   fun v0 a h Q => gx_obj (x := 3) (by decide +kernel) (by decide +kernel) (Nat.le_of_ble_eq_true rfl),
   fun x st h Q => gx_one (i := .aload_n 0) (len := 1) (by decide +kernel) rfl,
   fun v0 st h Q => gx_one (i := .bipush 12) (len := 2) (by decide +kernel) rfl,
   fun v0 st h Q => gx_one (i := .newarray .int) (len := 2) (by decide +kernel) (by simp only [mr_one, mr_nar]; rw [if_pos trivial, if_neg (by decide)]; rfl),
   fun v0 a x st h Q => gx_put (x := 9) (by decide +kernel) (by decide +kernel) ⟨rfl, Or.inr ⟨rfl, rfl⟩⟩,
   fun v0 h Q => gx_ret (i := .return_) (len := 1) (by decide +kernel) rfl rfl (by simp only [mr_rt, if_pos]; rw [if_pos (by decide +kernel)])⟩
theorem S_wa_init : (∀ (x : Nat) (st : List Value) (h : mr_h) (Q : Option Value → mr_h → Prop), mr_wp 8 0 [.ref x] st h Q = mr_wp 8 1 [.ref x] (.ref x :: st) h Q) ∧
    (∀ (v0 : Value) (a : Nat) (h : mr_h) (Q : Option Value → mr_h → Prop), mr_wp 8 1 [v0] [.ref a] h Q = mr_wp 8 4 [v0] [] h Q) ∧
    (∀ (x : Nat) (st : List Value) (h : mr_h) (Q : Option Value → mr_h → Prop), mr_wp 8 4 [.ref x] st h Q = mr_wp 8 5 [.ref x] (.ref x :: st) h Q) ∧
    (∀ (v0 : Value) (st : List Value) (h : mr_h) (Q : Option Value → mr_h → Prop), mr_wp 8 5 [v0] st h Q = mr_wp 8 7 [v0] (.int (12) :: st) h Q) ∧
    (∀ (v0 : Value) (st : List Value) (h : mr_h) (Q : Option Value → mr_h → Prop), mr_wp 8 7 [v0] (.int (12) :: st) h Q = mr_wp 8 9 [v0] (.ref h.2.1 :: st) (mr_add h 12 (mr_I 12 (fun _ => 0))) Q) ∧
    (∀ (v0 : Value) (a : Nat) (x : Nat) (st : List Value) (h : mr_h) (Q : Option Value → mr_h → Prop), mr_wp 8 9 [v0] (.ref x :: .ref a :: st) h Q = mr_pf (h.1 a) 9 0 (.ref x) (fun c => mr_wp 8 12 [v0] st (mr_up h a c) Q)) ∧
    (∀ (v0 : Value) (h : mr_h) (Q : Option Value → mr_h → Prop), mr_wp 8 12 [v0] [] h Q = Q none h) :=
  ⟨fun x st h Q => gx_one (i := .aload_n 0) (len := 1) (by decide +kernel) rfl,
   fun v0 a h Q => gx_obj (x := 3) (by decide +kernel) (by decide +kernel) (Nat.le_of_ble_eq_true rfl),
   fun x st h Q => gx_one (i := .aload_n 0) (len := 1) (by decide +kernel) rfl,
   fun v0 st h Q => gx_one (i := .bipush 12) (len := 2) (by decide +kernel) rfl,
   fun v0 st h Q => gx_one (i := .newarray .int) (len := 2) (by decide +kernel) (by simp only [mr_one, mr_nar]; rw [if_pos trivial, if_neg (by decide)]; rfl),
   fun v0 a x st h Q => gx_put (x := 9) (by decide +kernel) (by decide +kernel) ⟨rfl, Or.inr ⟨rfl, rfl⟩⟩,
   fun v0 h Q => gx_ret (i := .return_) (len := 1) (by decide +kernel) rfl rfl (by simp only [mr_rt, if_pos]; rw [if_pos (by decide +kernel)])⟩
theorem S_cg_init : (∀ (x : Nat) (st : List Value) (h : mr_h) (Q : Option Value → mr_h → Prop), mr_wp 9 0 [.ref x] st h Q = mr_wp 9 1 [.ref x] (.ref x :: st) h Q) ∧
    (∀ (v0 : Value) (a : Nat) (h : mr_h) (Q : Option Value → mr_h → Prop), mr_wp 9 1 [v0] [.ref a] h Q = mr_wp 9 4 [v0] [] h Q) ∧
    (∀ (x : Nat) (st : List Value) (h : mr_h) (Q : Option Value → mr_h → Prop), mr_wp 9 4 [.ref x] st h Q = mr_wp 9 5 [.ref x] (.ref x :: st) h Q) ∧
    (∀ (v0 : Value) (st : List Value) (h : mr_h) (Q : Option Value → mr_h → Prop), mr_wp 9 5 [v0] st h Q = mr_wp 9 7 [v0] (.int (12) :: st) h Q) ∧
    (∀ (v0 : Value) (st : List Value) (h : mr_h) (Q : Option Value → mr_h → Prop), mr_wp 9 7 [v0] (.int (12) :: st) h Q = mr_wp 9 9 [v0] (.ref h.2.1 :: st) (mr_add h 12 (mr_I 12 (fun _ => 0))) Q) ∧
    (∀ (v0 : Value) (a : Nat) (x : Nat) (st : List Value) (h : mr_h) (Q : Option Value → mr_h → Prop), mr_wp 9 9 [v0] (.ref x :: .ref a :: st) h Q = mr_pf (h.1 a) 2 0 (.ref x) (fun c => mr_wp 9 12 [v0] st (mr_up h a c) Q)) ∧
    (∀ (v0 : Value) (h : mr_h) (Q : Option Value → mr_h → Prop), mr_wp 9 12 [v0] [] h Q = Q none h) :=
  ⟨fun x st h Q => gx_one (i := .aload_n 0) (len := 1) (by decide +kernel) rfl,
   fun v0 a h Q => gx_obj (x := 3) (by decide +kernel) (by decide +kernel) (Nat.le_of_ble_eq_true rfl),
   fun x st h Q => gx_one (i := .aload_n 0) (len := 1) (by decide +kernel) rfl,
   fun v0 st h Q => gx_one (i := .bipush 12) (len := 2) (by decide +kernel) rfl,
   fun v0 st h Q => gx_one (i := .newarray .int) (len := 2) (by decide +kernel) (by simp only [mr_one, mr_nar]; rw [if_pos trivial, if_neg (by decide)]; rfl),
   fun v0 a x st h Q => gx_put (x := 9) (by decide +kernel) (by decide +kernel) ⟨rfl, Or.inr ⟨rfl, rfl⟩⟩,
   fun v0 h Q => gx_ret (i := .return_) (len := 1) (by decide +kernel) rfl rfl (by simp only [mr_rt, if_pos]; rw [if_pos (by decide +kernel)])⟩
theorem S_ch_init : (∀ (x : Nat) (st : List Value) (h : mr_h) (Q : Option Value → mr_h → Prop), mr_wp 10 0 [.ref x] st h Q = mr_wp 10 1 [.ref x] (.ref x :: st) h Q) ∧
    (∀ (v0 : Value) (a : Nat) (h : mr_h) (Q : Option Value → mr_h → Prop), mr_wp 10 1 [v0] [.ref a] h Q = mr_wp 10 4 [v0] [] h Q) ∧
    (∀ (x : Nat) (st : List Value) (h : mr_h) (Q : Option Value → mr_h → Prop), mr_wp 10 4 [.ref x] st h Q = mr_wp 10 5 [.ref x] (.ref x :: st) h Q) ∧
    (∀ (v0 : Value) (st : List Value) (h : mr_h) (Q : Option Value → mr_h → Prop), mr_wp 10 5 [v0] st h Q = mr_wp 10 6 [v0] (.long (0) :: st) h Q) ∧
    (∀ (v0 : Value) (a : Nat) (x : Int64) (st : List Value) (h : mr_h) (Q : Option Value → mr_h → Prop), mr_wp 10 6 [v0] (.long x :: .ref a :: st) h Q = mr_pf (h.1 a) 1 0 (.long x) (fun c => mr_wp 10 9 [v0] st (mr_up h a c) Q)) ∧
    (∀ (x : Nat) (st : List Value) (h : mr_h) (Q : Option Value → mr_h → Prop), mr_wp 10 9 [.ref x] st h Q = mr_wp 10 10 [.ref x] (.ref x :: st) h Q) ∧
    (∀ (v0 : Value) (st : List Value) (h : mr_h) (Q : Option Value → mr_h → Prop), mr_wp 10 10 [v0] st h Q = mr_wp 10 11 [v0] (.long (1) :: st) h Q) ∧
    (∀ (v0 : Value) (a : Nat) (x : Int64) (st : List Value) (h : mr_h) (Q : Option Value → mr_h → Prop), mr_wp 10 11 [v0] (.long x :: .ref a :: st) h Q = mr_pf (h.1 a) 1 1 (.long x) (fun c => mr_wp 10 14 [v0] st (mr_up h a c) Q)) ∧
    (∀ (x : Nat) (st : List Value) (h : mr_h) (Q : Option Value → mr_h → Prop), mr_wp 10 14 [.ref x] st h Q = mr_wp 10 15 [.ref x] (.ref x :: st) h Q) ∧
    (∀ (v0 : Value) (st : List Value) (h : mr_h) (Q : Option Value → mr_h → Prop), mr_wp 10 15 [v0] st h Q = mr_wp 10 17 [v0] (.int (9) :: st) h Q) ∧
    (∀ (v0 : Value) (st : List Value) (h : mr_h) (Q : Option Value → mr_h → Prop), mr_wp 10 17 [v0] (.int (9) :: st) h Q = mr_wp 10 19 [v0] (.ref h.2.1 :: st) (mr_add h 9 (mr_I 9 (fun _ => 0))) Q) ∧
    (∀ (v0 : Value) (a : Nat) (x : Nat) (st : List Value) (h : mr_h) (Q : Option Value → mr_h → Prop), mr_wp 10 19 [v0] (.ref x :: .ref a :: st) h Q = mr_pf (h.1 a) 1 2 (.ref x) (fun c => mr_wp 10 22 [v0] st (mr_up h a c) Q)) ∧
    (∀ (x : Nat) (st : List Value) (h : mr_h) (Q : Option Value → mr_h → Prop), mr_wp 10 22 [.ref x] st h Q = mr_wp 10 23 [.ref x] (.ref x :: st) h Q) ∧
    (∀ (v0 : Value) (st : List Value) (h : mr_h) (Q : Option Value → mr_h → Prop), mr_wp 10 23 [v0] st h Q = mr_wp 10 25 [v0] (.int (9) :: st) h Q) ∧
    (∀ (v0 : Value) (st : List Value) (h : mr_h) (Q : Option Value → mr_h → Prop), mr_wp 10 25 [v0] (.int (9) :: st) h Q = mr_wp 10 27 [v0] (.ref h.2.1 :: st) (mr_add h 9 (mr_I 9 (fun _ => 0))) Q) ∧
    (∀ (v0 : Value) (a : Nat) (x : Nat) (st : List Value) (h : mr_h) (Q : Option Value → mr_h → Prop), mr_wp 10 27 [v0] (.ref x :: .ref a :: st) h Q = mr_pf (h.1 a) 1 3 (.ref x) (fun c => mr_wp 10 30 [v0] st (mr_up h a c) Q)) ∧
    (∀ (x : Nat) (st : List Value) (h : mr_h) (Q : Option Value → mr_h → Prop), mr_wp 10 30 [.ref x] st h Q = mr_wp 10 31 [.ref x] (.ref x :: st) h Q) ∧
    (∀ (v0 : Value) (st : List Value) (h : mr_h) (Q : Option Value → mr_h → Prop), mr_wp 10 31 [v0] st h Q = mr_wp 10 33 [v0] (.int (10) :: st) h Q) ∧
    (∀ (v0 : Value) (st : List Value) (h : mr_h) (Q : Option Value → mr_h → Prop), mr_wp 10 33 [v0] (.int (10) :: st) h Q = mr_wp 10 35 [v0] (.ref h.2.1 :: st) (mr_add h 10 (mr_J 10 (fun _ => 0))) Q) ∧
    (∀ (v0 : Value) (a : Nat) (x : Nat) (st : List Value) (h : mr_h) (Q : Option Value → mr_h → Prop), mr_wp 10 35 [v0] (.ref x :: .ref a :: st) h Q = mr_pf (h.1 a) 1 4 (.ref x) (fun c => mr_wp 10 38 [v0] st (mr_up h a c) Q)) ∧
    (∀ (x : Nat) (st : List Value) (h : mr_h) (Q : Option Value → mr_h → Prop), mr_wp 10 38 [.ref x] st h Q = mr_wp 10 39 [.ref x] (.ref x :: st) h Q) ∧
    (∀ (v0 : Value) (st : List Value) (h : mr_h) (Q : Option Value → mr_h → Prop), mr_wp 10 39 [v0] st h Q = mr_wp 10 40 [v0] (.int (0) :: st) h Q) ∧
    (∀ (v0 : Value) (a : Nat) (x : Int32) (st : List Value) (h : mr_h) (Q : Option Value → mr_h → Prop), mr_wp 10 40 [v0] (.int x :: .ref a :: st) h Q = mr_pf (h.1 a) 1 5 (.int x) (fun c => mr_wp 10 43 [v0] st (mr_up h a c) Q)) ∧
    (∀ (v0 : Value) (h : mr_h) (Q : Option Value → mr_h → Prop), mr_wp 10 43 [v0] [] h Q = Q none h) :=
  ⟨fun x st h Q => gx_one (i := .aload_n 0) (len := 1) (by decide +kernel) rfl,
   fun v0 a h Q => gx_obj (x := 3) (by decide +kernel) (by decide +kernel) (Nat.le_of_ble_eq_true rfl),
   fun x st h Q => gx_one (i := .aload_n 0) (len := 1) (by decide +kernel) rfl,
   fun v0 st h Q => gx_one (i := .lconst 0) (len := 1) (by decide +kernel) rfl,
   fun v0 a x st h Q => gx_put (x := 9) (by decide +kernel) (by decide +kernel) ⟨rfl, Or.inl rfl⟩,
   fun x st h Q => gx_one (i := .aload_n 0) (len := 1) (by decide +kernel) rfl,
   fun v0 st h Q => gx_one (i := .lconst 1) (len := 1) (by decide +kernel) rfl,
   fun v0 a x st h Q => gx_put (x := 15) (by decide +kernel) (by decide +kernel) ⟨rfl, Or.inl rfl⟩,
   fun x st h Q => gx_one (i := .aload_n 0) (len := 1) (by decide +kernel) rfl,
   fun v0 st h Q => gx_one (i := .bipush 9) (len := 2) (by decide +kernel) rfl,
   fun v0 st h Q => gx_one (i := .newarray .int) (len := 2) (by decide +kernel) (by simp only [mr_one, mr_nar]; rw [if_pos trivial, if_neg (by decide)]; rfl),
   fun v0 a x st h Q => gx_put (x := 18) (by decide +kernel) (by decide +kernel) ⟨rfl, Or.inr ⟨rfl, rfl⟩⟩,
   fun x st h Q => gx_one (i := .aload_n 0) (len := 1) (by decide +kernel) rfl,
   fun v0 st h Q => gx_one (i := .bipush 9) (len := 2) (by decide +kernel) rfl,
   fun v0 st h Q => gx_one (i := .newarray .int) (len := 2) (by decide +kernel) (by simp only [mr_one, mr_nar]; rw [if_pos trivial, if_neg (by decide)]; rfl),
   fun v0 a x st h Q => gx_put (x := 22) (by decide +kernel) (by decide +kernel) ⟨rfl, Or.inr ⟨rfl, rfl⟩⟩,
   fun x st h Q => gx_one (i := .aload_n 0) (len := 1) (by decide +kernel) rfl,
   fun v0 st h Q => gx_one (i := .bipush 10) (len := 2) (by decide +kernel) rfl,
   fun v0 st h Q => gx_one (i := .newarray .long) (len := 2) (by decide +kernel) (by simp only [mr_one, mr_nar]; rw [if_pos trivial, if_neg (by decide)]; rfl),
   fun v0 a x st h Q => gx_put (x := 25) (by decide +kernel) (by decide +kernel) ⟨rfl, Or.inr ⟨rfl, rfl⟩⟩,
   fun x st h Q => gx_one (i := .aload_n 0) (len := 1) (by decide +kernel) rfl,
   fun v0 st h Q => gx_one (i := .iconst 0) (len := 1) (by decide +kernel) rfl,
   fun v0 a x st h Q => gx_put (x := 29) (by decide +kernel) (by decide +kernel) ⟨rfl, Or.inl rfl⟩,
   fun v0 h Q => gx_ret (i := .return_) (len := 1) (by decide +kernel) rfl rfl (by simp only [mr_rt, if_pos]; rw [if_pos (by decide +kernel)])⟩
theorem S_si_init : (∀ (x : Nat) (st : List Value) (h : mr_h) (Q : Option Value → mr_h → Prop), mr_wp 11 0 [.ref x] st h Q = mr_wp 11 1 [.ref x] (.ref x :: st) h Q) ∧
    (∀ (v0 : Value) (a : Nat) (h : mr_h) (Q : Option Value → mr_h → Prop), mr_wp 11 1 [v0] [.ref a] h Q = mr_wp 11 4 [v0] [] h Q) ∧
    (∀ (x : Nat) (st : List Value) (h : mr_h) (Q : Option Value → mr_h → Prop), mr_wp 11 4 [.ref x] st h Q = mr_wp 11 5 [.ref x] (.ref x :: st) h Q) ∧
    (∀ (v0 : Value) (st : List Value) (h : mr_h) (Q : Option Value → mr_h → Prop), mr_wp 11 5 [v0] st h Q = mr_wp 11 6 [v0] (.int (0) :: st) h Q) ∧
    (∀ (v0 : Value) (a : Nat) (x : Int32) (st : List Value) (h : mr_h) (Q : Option Value → mr_h → Prop), mr_wp 11 6 [v0] (.int x :: .ref a :: st) h Q = mr_pf (h.1 a) 8 0 (.int x) (fun c => mr_wp 11 9 [v0] st (mr_up h a c) Q)) ∧
    (∀ (x : Nat) (st : List Value) (h : mr_h) (Q : Option Value → mr_h → Prop), mr_wp 11 9 [.ref x] st h Q = mr_wp 11 10 [.ref x] (.ref x :: st) h Q) ∧
    (∀ (v0 : Value) (st : List Value) (h : mr_h) (Q : Option Value → mr_h → Prop), mr_wp 11 10 [v0] st h Q = mr_wp 11 12 [v0] (.int (6) :: st) h Q) ∧
    (∀ (v0 : Value) (st : List Value) (h : mr_h) (Q : Option Value → mr_h → Prop), mr_wp 11 12 [v0] (.int (6) :: st) h Q = mr_wp 11 14 [v0] (.ref h.2.1 :: st) (mr_add h 6 (mr_I 6 (fun _ => 0))) Q) ∧
    (∀ (v0 : Value) (a : Nat) (x : Nat) (st : List Value) (h : mr_h) (Q : Option Value → mr_h → Prop), mr_wp 11 14 [v0] (.ref x :: .ref a :: st) h Q = mr_pf (h.1 a) 8 1 (.ref x) (fun c => mr_wp 11 17 [v0] st (mr_up h a c) Q)) ∧
    (∀ (x : Nat) (st : List Value) (h : mr_h) (Q : Option Value → mr_h → Prop), mr_wp 11 17 [.ref x] st h Q = mr_wp 11 18 [.ref x] (.ref x :: st) h Q) ∧
    (∀ (v0 : Value) (st : List Value) (h : mr_h) (Q : Option Value → mr_h → Prop), mr_wp 11 18 [v0] st h Q = mr_wp 11 20 [v0] (.int (6) :: st) h Q) ∧
    (∀ (v0 : Value) (st : List Value) (h : mr_h) (Q : Option Value → mr_h → Prop), mr_wp 11 20 [v0] (.int (6) :: st) h Q = mr_wp 11 22 [v0] (.ref h.2.1 :: st) (mr_add h 6 (mr_I 6 (fun _ => 0))) Q) ∧
    (∀ (v0 : Value) (a : Nat) (x : Nat) (st : List Value) (h : mr_h) (Q : Option Value → mr_h → Prop), mr_wp 11 22 [v0] (.ref x :: .ref a :: st) h Q = mr_pf (h.1 a) 8 2 (.ref x) (fun c => mr_wp 11 25 [v0] st (mr_up h a c) Q)) ∧
    (∀ (x : Nat) (st : List Value) (h : mr_h) (Q : Option Value → mr_h → Prop), mr_wp 11 25 [.ref x] st h Q = mr_wp 11 26 [.ref x] (.ref x :: st) h Q) ∧
    (∀ (v0 : Value) (st : List Value) (h : mr_h) (Q : Option Value → mr_h → Prop), mr_wp 11 26 [v0] st h Q = mr_wp 11 28 [v0] (.int (6) :: st) h Q) ∧
    (∀ (v0 : Value) (st : List Value) (h : mr_h) (Q : Option Value → mr_h → Prop), mr_wp 11 28 [v0] (.int (6) :: st) h Q = mr_wp 11 30 [v0] (.ref h.2.1 :: st) (mr_add h 6 (mr_I 6 (fun _ => 0))) Q) ∧
    (∀ (v0 : Value) (a : Nat) (x : Nat) (st : List Value) (h : mr_h) (Q : Option Value → mr_h → Prop), mr_wp 11 30 [v0] (.ref x :: .ref a :: st) h Q = mr_pf (h.1 a) 8 3 (.ref x) (fun c => mr_wp 11 33 [v0] st (mr_up h a c) Q)) ∧
    (∀ (x : Nat) (st : List Value) (h : mr_h) (Q : Option Value → mr_h → Prop), mr_wp 11 33 [.ref x] st h Q = mr_wp 11 34 [.ref x] (.ref x :: st) h Q) ∧
    (∀ (v0 : Value) (st : List Value) (h : mr_h) (Q : Option Value → mr_h → Prop), mr_wp 11 34 [v0] st h Q = mr_wp 11 36 [v0] (.int (12) :: st) h Q) ∧
    (∀ (v0 : Value) (st : List Value) (h : mr_h) (Q : Option Value → mr_h → Prop), mr_wp 11 36 [v0] (.int (12) :: st) h Q = mr_wp 11 38 [v0] (.ref h.2.1 :: st) (mr_add h 12 (mr_I 12 (fun _ => 0))) Q) ∧
    (∀ (v0 : Value) (a : Nat) (x : Nat) (st : List Value) (h : mr_h) (Q : Option Value → mr_h → Prop), mr_wp 11 38 [v0] (.ref x :: .ref a :: st) h Q = mr_pf (h.1 a) 8 4 (.ref x) (fun c => mr_wp 11 41 [v0] st (mr_up h a c) Q)) ∧
    (∀ (x : Nat) (st : List Value) (h : mr_h) (Q : Option Value → mr_h → Prop), mr_wp 11 41 [.ref x] st h Q = mr_wp 11 42 [.ref x] (.ref x :: st) h Q) ∧
    (∀ (v0 : Value) (st : List Value) (h : mr_h) (Q : Option Value → mr_h → Prop), mr_wp 11 42 [v0] st h Q = mr_wp 11 43 [v0] (.int (0) :: st) h Q) ∧
    (∀ (v0 : Value) (a : Nat) (x : Int32) (st : List Value) (h : mr_h) (Q : Option Value → mr_h → Prop), mr_wp 11 43 [v0] (.int x :: .ref a :: st) h Q = mr_pf (h.1 a) 8 5 (.int x) (fun c => mr_wp 11 46 [v0] st (mr_up h a c) Q)) ∧
    (∀ (v0 : Value) (h : mr_h) (Q : Option Value → mr_h → Prop), mr_wp 11 46 [v0] [] h Q = Q none h) :=
  ⟨fun x st h Q => gx_one (i := .aload_n 0) (len := 1) (by decide +kernel) rfl,
   fun v0 a h Q => gx_obj (x := 3) (by decide +kernel) (by decide +kernel) (Nat.le_of_ble_eq_true rfl),
   fun x st h Q => gx_one (i := .aload_n 0) (len := 1) (by decide +kernel) rfl,
   fun v0 st h Q => gx_one (i := .iconst 0) (len := 1) (by decide +kernel) rfl,
   fun v0 a x st h Q => gx_put (x := 9) (by decide +kernel) (by decide +kernel) ⟨rfl, Or.inl rfl⟩,
   fun x st h Q => gx_one (i := .aload_n 0) (len := 1) (by decide +kernel) rfl,
   fun v0 st h Q => gx_one (i := .bipush 6) (len := 2) (by decide +kernel) rfl,
   fun v0 st h Q => gx_one (i := .newarray .int) (len := 2) (by decide +kernel) (by simp only [mr_one, mr_nar]; rw [if_pos trivial, if_neg (by decide)]; rfl),
   fun v0 a x st h Q => gx_put (x := 15) (by decide +kernel) (by decide +kernel) ⟨rfl, Or.inr ⟨rfl, rfl⟩⟩,
   fun x st h Q => gx_one (i := .aload_n 0) (len := 1) (by decide +kernel) rfl,
   fun v0 st h Q => gx_one (i := .bipush 6) (len := 2) (by decide +kernel) rfl,
   fun v0 st h Q => gx_one (i := .newarray .int) (len := 2) (by decide +kernel) (by simp only [mr_one, mr_nar]; rw [if_pos trivial, if_neg (by decide)]; rfl),
   fun v0 a x st h Q => gx_put (x := 19) (by decide +kernel) (by decide +kernel) ⟨rfl, Or.inr ⟨rfl, rfl⟩⟩,
   fun x st h Q => gx_one (i := .aload_n 0) (len := 1) (by decide +kernel) rfl,
   fun v0 st h Q => gx_one (i := .bipush 6) (len := 2) (by decide +kernel) rfl,
   fun v0 st h Q => gx_one (i := .newarray .int) (len := 2) (by decide +kernel) (by simp only [mr_one, mr_nar]; rw [if_pos trivial, if_neg (by decide)]; rfl),
   fun v0 a x st h Q => gx_put (x := 22) (by decide +kernel) (by decide +kernel) ⟨rfl, Or.inr ⟨rfl, rfl⟩⟩,
   fun x st h Q => gx_one (i := .aload_n 0) (len := 1) (by decide +kernel) rfl,
   fun v0 st h Q => gx_one (i := .bipush 12) (len := 2) (by decide +kernel) rfl,
   fun v0 st h Q => gx_one (i := .newarray .int) (len := 2) (by decide +kernel) (by simp only [mr_one, mr_nar]; rw [if_pos trivial, if_neg (by decide)]; rfl),
   fun v0 a x st h Q => gx_put (x := 25) (by decide +kernel) (by decide +kernel) ⟨rfl, Or.inr ⟨rfl, rfl⟩⟩,
   fun x st h Q => gx_one (i := .aload_n 0) (len := 1) (by decide +kernel) rfl,
   fun v0 st h Q => gx_one (i := .iconst 0) (len := 1) (by decide +kernel) rfl,
   fun v0 a x st h Q => gx_put (x := 28) (by decide +kernel) (by decide +kernel) ⟨rfl, Or.inl rfl⟩,
   fun v0 h Q => gx_ret (i := .return_) (len := 1) (by decide +kernel) rfl rfl (by simp only [mr_rt, if_pos]; rw [if_pos (by decide +kernel)])⟩
theorem s_pa_init_20 (v0 : Value) (x : Int32) (st : List Value) (h : mr_h) (Q : Option Value → mr_h → Prop) : mr_wp 12 20 [v0, .int x] st h Q = mr_wp 12 21 [v0, .int x] (.int x :: st) h Q := gx_one (i := .iload_n 1) (len := 1) (by decide +kernel) rfl
theorem S_pa_init : (∀ (v1 : Value) (x : Nat) (st : List Value) (h : mr_h) (Q : Option Value → mr_h → Prop), mr_wp 12 0 [.ref x, v1] st h Q = mr_wp 12 1 [.ref x, v1] (.ref x :: st) h Q) ∧
    (∀ (v0 v1 : Value) (a : Nat) (h : mr_h) (Q : Option Value → mr_h → Prop), mr_wp 12 1 [v0, v1] [.ref a] h Q = mr_wp 12 4 [v0, v1] [] h Q) ∧
    (∀ (v1 : Value) (x : Nat) (st : List Value) (h : mr_h) (Q : Option Value → mr_h → Prop), mr_wp 12 4 [.ref x, v1] st h Q = mr_wp 12 5 [.ref x, v1] (.ref x :: st) h Q) ∧
    (∀ (v0 v1 : Value) (st : List Value) (h : mr_h) (Q : Option Value → mr_h → Prop), mr_wp 12 5 [v0, v1] st h Q = mr_wp 12 6 [v0, v1] (.int (0) :: st) h Q) ∧
    (∀ (v0 v1 : Value) (a : Nat) (x : Int32) (st : List Value) (h : mr_h) (Q : Option Value → mr_h → Prop), mr_wp 12 6 [v0, v1] (.int x :: .ref a :: st) h Q = mr_pf (h.1 a) 4 0 (.int x) (fun c => mr_wp 12 9 [v0, v1] st (mr_up h a c) Q)) ∧
    (∀ (v1 : Value) (x : Nat) (st : List Value) (h : mr_h) (Q : Option Value → mr_h → Prop), mr_wp 12 9 [.ref x, v1] st h Q = mr_wp 12 10 [.ref x, v1] (.ref x :: st) h Q) ∧
    (∀ (v0 v1 : Value) (st : List Value) (h : mr_h) (Q : Option Value → mr_h → Prop), mr_wp 12 10 [v0, v1] st h Q = mr_wp 12 12 [v0, v1] (.int (10) :: st) h Q) ∧
    (∀ (v0 v1 : Value) (st : List Value) (h : mr_h) (Q : Option Value → mr_h → Prop), mr_wp 12 12 [v0, v1] (.int (10) :: st) h Q = mr_wp 12 15 [v0, v1] (.ref h.2.1 :: st) (mr_add h 10 (mr_A 10 (fun _ => none))) Q) ∧
    (∀ (v0 v1 : Value) (a : Nat) (x : Nat) (st : List Value) (h : mr_h) (Q : Option Value → mr_h → Prop), mr_wp 12 15 [v0, v1] (.ref x :: .ref a :: st) h Q = mr_pf (h.1 a) 4 1 (.ref x) (fun c => mr_wp 12 18 [v0, v1] st (mr_up h a c) Q)) ∧
    (∀ (v0 v1 : Value) (st : List Value) (h : mr_h) (Q : Option Value → mr_h → Prop), mr_wp 12 18 [v0, v1] st h Q = mr_wp 12 19 [v0, v1] (.int (0) :: st) h Q) ∧
    (∀ (v1 : Value) (w0 : Nat) (x : Int32) (st : List Value) (h : mr_h) (Q : Option Value → mr_h → Prop), mr_wp 12 19 [.ref w0, v1] (.int x :: st) h Q = mr_wp 12 20 [.ref w0, .int x] st h Q) ∧
    (∀ (v0 v1 : Value) (st : List Value) (h : mr_h) (Q : Option Value → mr_h → Prop), mr_wp 12 21 [v0, v1] st h Q = mr_wp 12 23 [v0, v1] (.int (10) :: st) h Q) ∧
    (∀ (v0 v1 : Value) (x : Int32) (y : Int32) (st : List Value) (h : mr_h) (Q : Option Value → mr_h → Prop), mr_wp 12 23 [v0, v1] (.int y :: .int x :: st) h Q = if y ≤ x then mr_wp 12 45 [v0, v1] st h Q else mr_wp 12 26 [v0, v1] st h Q) ∧
    (∀ (v1 : Value) (x : Nat) (st : List Value) (h : mr_h) (Q : Option Value → mr_h → Prop), mr_wp 12 26 [.ref x, v1] st h Q = mr_wp 12 27 [.ref x, v1] (.ref x :: st) h Q) ∧
    (∀ (v0 v1 : Value) (a : Nat) (st : List Value) (h : mr_h) (Q : Option Value → mr_h → Prop), mr_wp 12 27 [v0, v1] (.ref a :: st) h Q = mr_gf (h.1 a) 4 1 (fun v => mr_wp 12 30 [v0, v1] (v :: st) h Q)) ∧
    (∀ (v0 : Value) (x : Int32) (st : List Value) (h : mr_h) (Q : Option Value → mr_h → Prop), mr_wp 12 30 [v0, .int x] st h Q = mr_wp 12 31 [v0, .int x] (.int x :: st) h Q) ∧
    (∀ (v0 v1 : Value) (st : List Value) (h : mr_h) (Q : Option Value → mr_h → Prop), mr_wp 12 31 [v0, v1] st h Q = mr_wp 12 34 [v0, v1] (.ref h.2.1 :: st) (mr_add h 3 (mr_O 3 (mr_dfs 3))) Q) ∧
    (∀ (v0 v1 : Value) (x : Nat) (st : List Value) (h : mr_h) (Q : Option Value → mr_h → Prop), mr_wp 12 34 [v0, v1] (.ref x :: st) h Q = mr_wp 12 35 [v0, v1] (.ref x :: .ref x :: st) h Q) ∧
    (∀ (v0 v1 : Value) (o : Nat) (r0 : Value) (r1 : Value) (r2 : Value) (h : mr_h) (Q : Option Value → mr_h → Prop), mr_wp 12 35 [v0, v1] [.ref o, r0, r1, r2] h Q = mr_run 1 [.ref o] h (fun v h' => mr_wp 12 38 [v0, v1] (v.toList ++ [r0, r1, r2]) h' Q)) ∧
    (∀ (v0 v1 : Value) (a : Nat) (x : Int32) (y : Nat) (st : List Value) (h : mr_h) (Q : Option Value → mr_h → Prop), mr_wp 12 38 [v0, v1] (.ref y :: .int x :: .ref a :: st) h Q = mr_sq (h.1 a) (h.1 y) x y (fun c => mr_wp 12 39 [v0, v1] st (mr_up h a c) Q)) ∧
    (∀ (x : Int32) (w0 : Nat) (st : List Value) (h : mr_h) (Q : Option Value → mr_h → Prop), mr_wp 12 39 [.ref w0, .int x] st h Q = mr_wp 12 42 [.ref w0, .int (x + (1))] st h Q) ∧
    (∀ (v0 v1 : Value) (st : List Value) (h : mr_h) (Q : Option Value → mr_h → Prop), mr_wp 12 42 [v0, v1] st h Q = mr_wp 12 20 [v0, v1] st h Q) ∧
    (∀ (v0 v1 : Value) (h : mr_h) (Q : Option Value → mr_h → Prop), mr_wp 12 45 [v0, v1] [] h Q = Q none h) :=
  ⟨fun v1 x st h Q => gx_one (i := .aload_n 0) (len := 1) (by decide +kernel) rfl,
   fun v0 v1 a h Q => gx_obj (x := 3) (by decide +kernel) (by decide +kernel) (Nat.le_of_ble_eq_true rfl),
   fun v1 x st h Q => gx_one (i := .aload_n 0) (len := 1) (by decide +kernel) rfl,
   fun v0 v1 st h Q => gx_one (i := .iconst 0) (len := 1) (by decide +kernel) rfl,
   fun v0 v1 a x st h Q => gx_put (x := 9) (by decide +kernel) (by decide +kernel) ⟨rfl, Or.inl rfl⟩,
   fun v1 x st h Q => gx_one (i := .aload_n 0) (len := 1) (by decide +kernel) rfl,
   fun v0 v1 st h Q => gx_one (i := .bipush 10) (len := 2) (by decide +kernel) rfl,
   fun v0 v1 st h Q => gx_one (i := .anewarray 15) (len := 3) (by decide +kernel) (by simp only [mr_one, mr_naq]; rw [if_pos trivial, if_neg (by decide), if_pos (by decide +kernel)]; rfl),
   fun v0 v1 a x st h Q => gx_put (x := 17) (by decide +kernel) (by decide +kernel) ⟨rfl, Or.inr ⟨rfl, rfl⟩⟩,
   fun v0 v1 st h Q => gx_one (i := .iconst 0) (len := 1) (by decide +kernel) rfl,
   fun v1 w0 x st h Q => gx_one (i := .istore_n 1) (len := 1) (by decide +kernel) rfl,
   fun v0 v1 st h Q => gx_one (i := .bipush 10) (len := 2) (by decide +kernel) rfl,
   fun v0 v1 x y st h Q => gx_br (i := .if_icmp .ge 22) (len := 3) (c := .ge) (by decide +kernel) rfl rfl,
   fun v1 x st h Q => gx_one (i := .aload_n 0) (len := 1) (by decide +kernel) rfl,
   fun v0 v1 a st h Q => gx_get (x := 17) (by decide +kernel) (by decide +kernel),
   fun v0 x st h Q => gx_one (i := .iload_n 1) (len := 1) (by decide +kernel) rfl,
   fun v0 v1 st h Q => gx_new (x := 15) (by decide +kernel) (by decide +kernel),
   fun v0 v1 x st h Q => gx_one (i := .dup) (len := 1) (by decide +kernel) rfl,
   fun v0 v1 o r0 r1 r2 h Q => gx_ini (x := 21) (t := 1) (n := 0) (by decide +kernel) (by decide +kernel) (by decide) (by decide +kernel) rfl (Or.inl (Nat.le_of_ble_eq_true rfl)) (by show _ ≤ mr_mxl 1; rw [show mr_mxl 1 = 1 from by decide +kernel]; exact Nat.le_of_ble_eq_true rfl),
   fun v0 v1 a x y st h Q => gx_qast (by decide +kernel),
   fun x w0 st h Q => gx_one (i := .iinc 1 1) (len := 3) (by decide +kernel) rfl,
   fun v0 v1 st h Q => gx_one (i := .goto (-22)) (len := 3) (by decide +kernel) rfl,
   fun v0 v1 h Q => gx_ret (i := .return_) (len := 1) (by decide +kernel) rfl rfl (by simp only [mr_rt, if_pos]; rw [if_pos (by decide +kernel)])⟩
theorem s_al_init_21 (v0 : Value) (x : Int32) (st : List Value) (h : mr_h) (Q : Option Value → mr_h → Prop) : mr_wp 13 21 [v0, .int x] st h Q = mr_wp 13 22 [v0, .int x] (.int x :: st) h Q := gx_one (i := .iload_n 1) (len := 1) (by decide +kernel) rfl
theorem S_al_init : (∀ (v1 : Value) (x : Nat) (st : List Value) (h : mr_h) (Q : Option Value → mr_h → Prop), mr_wp 13 0 [.ref x, v1] st h Q = mr_wp 13 1 [.ref x, v1] (.ref x :: st) h Q) ∧
    (∀ (v0 v1 : Value) (a : Nat) (h : mr_h) (Q : Option Value → mr_h → Prop), mr_wp 13 1 [v0, v1] [.ref a] h Q = mr_wp 13 4 [v0, v1] [] h Q) ∧
    (∀ (v1 : Value) (x : Nat) (st : List Value) (h : mr_h) (Q : Option Value → mr_h → Prop), mr_wp 13 4 [.ref x, v1] st h Q = mr_wp 13 5 [.ref x, v1] (.ref x :: st) h Q) ∧
    (∀ (v0 v1 : Value) (st : List Value) (h : mr_h) (Q : Option Value → mr_h → Prop), mr_wp 13 5 [v0, v1] st h Q = mr_wp 13 6 [v0, v1] (.int (2) :: st) h Q) ∧
    (∀ (v0 v1 : Value) (st : List Value) (h : mr_h) (Q : Option Value → mr_h → Prop), mr_wp 13 6 [v0, v1] (.int (2) :: st) h Q = mr_wp 13 9 [v0, v1] (.ref h.2.1 :: st) (mr_add h 2 (mr_A 2 (fun _ => none))) Q) ∧
    (∀ (v0 v1 : Value) (a : Nat) (x : Nat) (st : List Value) (h : mr_h) (Q : Option Value → mr_h → Prop), mr_wp 13 9 [v0, v1] (.ref x :: .ref a :: st) h Q = mr_pf (h.1 a) 0 0 (.ref x) (fun c => mr_wp 13 12 [v0, v1] st (mr_up h a c) Q)) ∧
    (∀ (v1 : Value) (x : Nat) (st : List Value) (h : mr_h) (Q : Option Value → mr_h → Prop), mr_wp 13 12 [.ref x, v1] st h Q = mr_wp 13 13 [.ref x, v1] (.ref x :: st) h Q) ∧
    (∀ (v0 v1 : Value) (st : List Value) (h : mr_h) (Q : Option Value → mr_h → Prop), mr_wp 13 13 [v0, v1] st h Q = mr_wp 13 14 [v0, v1] (.int (2) :: st) h Q) ∧
    (∀ (v0 v1 : Value) (st : List Value) (h : mr_h) (Q : Option Value → mr_h → Prop), mr_wp 13 14 [v0, v1] (.int (2) :: st) h Q = mr_wp 13 16 [v0, v1] (.ref h.2.1 :: st) (mr_add h 2 (mr_Z 2 (fun _ => 0))) Q) ∧
    (∀ (v0 v1 : Value) (a : Nat) (x : Nat) (st : List Value) (h : mr_h) (Q : Option Value → mr_h → Prop), mr_wp 13 16 [v0, v1] (.ref x :: .ref a :: st) h Q = mr_pf (h.1 a) 0 1 (.ref x) (fun c => mr_wp 13 19 [v0, v1] st (mr_up h a c) Q)) ∧
    (∀ (v0 v1 : Value) (st : List Value) (h : mr_h) (Q : Option Value → mr_h → Prop), mr_wp 13 19 [v0, v1] st h Q = mr_wp 13 20 [v0, v1] (.int (0) :: st) h Q) ∧
    (∀ (v1 : Value) (w0 : Nat) (x : Int32) (st : List Value) (h : mr_h) (Q : Option Value → mr_h → Prop), mr_wp 13 20 [.ref w0, v1] (.int x :: st) h Q = mr_wp 13 21 [.ref w0, .int x] st h Q) ∧
    (∀ (v0 v1 : Value) (st : List Value) (h : mr_h) (Q : Option Value → mr_h → Prop), mr_wp 13 22 [v0, v1] st h Q = mr_wp 13 23 [v0, v1] (.int (2) :: st) h Q) ∧
    (∀ (v0 v1 : Value) (x : Int32) (y : Int32) (st : List Value) (h : mr_h) (Q : Option Value → mr_h → Prop), mr_wp 13 23 [v0, v1] (.int y :: .int x :: st) h Q = if y ≤ x then mr_wp 13 45 [v0, v1] st h Q else mr_wp 13 26 [v0, v1] st h Q) ∧
    (∀ (v1 : Value) (x : Nat) (st : List Value) (h : mr_h) (Q : Option Value → mr_h → Prop), mr_wp 13 26 [.ref x, v1] st h Q = mr_wp 13 27 [.ref x, v1] (.ref x :: st) h Q) ∧
    (∀ (v0 v1 : Value) (a : Nat) (st : List Value) (h : mr_h) (Q : Option Value → mr_h → Prop), mr_wp 13 27 [v0, v1] (.ref a :: st) h Q = mr_gf (h.1 a) 0 0 (fun v => mr_wp 13 30 [v0, v1] (v :: st) h Q)) ∧
    (∀ (v0 : Value) (x : Int32) (st : List Value) (h : mr_h) (Q : Option Value → mr_h → Prop), mr_wp 13 30 [v0, .int x] st h Q = mr_wp 13 31 [v0, .int x] (.int x :: st) h Q) ∧
    (∀ (v0 v1 : Value) (st : List Value) (h : mr_h) (Q : Option Value → mr_h → Prop), mr_wp 13 31 [v0, v1] st h Q = mr_wp 13 34 [v0, v1] (.ref h.2.1 :: st) (mr_add h 3 (mr_O 3 (mr_dfs 3))) Q) ∧
    (∀ (v0 v1 : Value) (x : Nat) (st : List Value) (h : mr_h) (Q : Option Value → mr_h → Prop), mr_wp 13 34 [v0, v1] (.ref x :: st) h Q = mr_wp 13 35 [v0, v1] (.ref x :: .ref x :: st) h Q) ∧
    (∀ (v0 v1 : Value) (o : Nat) (r0 : Value) (r1 : Value) (r2 : Value) (h : mr_h) (Q : Option Value → mr_h → Prop), mr_wp 13 35 [v0, v1] [.ref o, r0, r1, r2] h Q = mr_run 1 [.ref o] h (fun v h' => mr_wp 13 38 [v0, v1] (v.toList ++ [r0, r1, r2]) h' Q)) ∧
    (∀ (v0 v1 : Value) (a : Nat) (x : Int32) (y : Nat) (st : List Value) (h : mr_h) (Q : Option Value → mr_h → Prop), mr_wp 13 38 [v0, v1] (.ref y :: .int x :: .ref a :: st) h Q = mr_sq (h.1 a) (h.1 y) x y (fun c => mr_wp 13 39 [v0, v1] st (mr_up h a c) Q)) ∧
    (∀ (x : Int32) (w0 : Nat) (st : List Value) (h : mr_h) (Q : Option Value → mr_h → Prop), mr_wp 13 39 [.ref w0, .int x] st h Q = mr_wp 13 42 [.ref w0, .int (x + (1))] st h Q) ∧
    (∀ (v0 v1 : Value) (st : List Value) (h : mr_h) (Q : Option Value → mr_h → Prop), mr_wp 13 42 [v0, v1] st h Q = mr_wp 13 21 [v0, v1] st h Q) ∧
    (∀ (v0 v1 : Value) (h : mr_h) (Q : Option Value → mr_h → Prop), mr_wp 13 45 [v0, v1] [] h Q = Q none h) :=
  ⟨fun v1 x st h Q => gx_one (i := .aload_n 0) (len := 1) (by decide +kernel) rfl,
   fun v0 v1 a h Q => gx_obj (x := 3) (by decide +kernel) (by decide +kernel) (Nat.le_of_ble_eq_true rfl),
   fun v1 x st h Q => gx_one (i := .aload_n 0) (len := 1) (by decide +kernel) rfl,
   fun v0 v1 st h Q => gx_one (i := .iconst 2) (len := 1) (by decide +kernel) rfl,
   fun v0 v1 st h Q => gx_one (i := .anewarray 9) (len := 3) (by decide +kernel) (by simp only [mr_one, mr_naq]; rw [if_pos trivial, if_neg (by decide), if_pos (by decide +kernel)]; rfl),
   fun v0 v1 a x st h Q => gx_put (x := 11) (by decide +kernel) (by decide +kernel) ⟨rfl, Or.inr ⟨rfl, rfl⟩⟩,
   fun v1 x st h Q => gx_one (i := .aload_n 0) (len := 1) (by decide +kernel) rfl,
   fun v0 v1 st h Q => gx_one (i := .iconst 2) (len := 1) (by decide +kernel) rfl,
   fun v0 v1 st h Q => gx_one (i := .newarray .boolean) (len := 2) (by decide +kernel) (by simp only [mr_one, mr_nar]; rw [if_pos trivial, if_neg (by decide)]; rfl),
   fun v0 v1 a x st h Q => gx_put (x := 17) (by decide +kernel) (by decide +kernel) ⟨rfl, Or.inr ⟨rfl, rfl⟩⟩,
   fun v0 v1 st h Q => gx_one (i := .iconst 0) (len := 1) (by decide +kernel) rfl,
   fun v1 w0 x st h Q => gx_one (i := .istore_n 1) (len := 1) (by decide +kernel) rfl,
   fun v0 v1 st h Q => gx_one (i := .iconst 2) (len := 1) (by decide +kernel) rfl,
   fun v0 v1 x y st h Q => gx_br (i := .if_icmp .ge 22) (len := 3) (c := .ge) (by decide +kernel) rfl rfl,
   fun v1 x st h Q => gx_one (i := .aload_n 0) (len := 1) (by decide +kernel) rfl,
   fun v0 v1 a st h Q => gx_get (x := 11) (by decide +kernel) (by decide +kernel),
   fun v0 x st h Q => gx_one (i := .iload_n 1) (len := 1) (by decide +kernel) rfl,
   fun v0 v1 st h Q => gx_new (x := 9) (by decide +kernel) (by decide +kernel),
   fun v0 v1 x st h Q => gx_one (i := .dup) (len := 1) (by decide +kernel) rfl,
   fun v0 v1 o r0 r1 r2 h Q => gx_ini (x := 21) (t := 1) (n := 0) (by decide +kernel) (by decide +kernel) (by decide) (by decide +kernel) rfl (Or.inl (Nat.le_of_ble_eq_true rfl)) (by show _ ≤ mr_mxl 1; rw [show mr_mxl 1 = 1 from by decide +kernel]; exact Nat.le_of_ble_eq_true rfl),
   fun v0 v1 a x y st h Q => gx_qast (by decide +kernel),
   fun x w0 st h Q => gx_one (i := .iinc 1 1) (len := 3) (by decide +kernel) rfl,
   fun v0 v1 st h Q => gx_one (i := .goto (-21)) (len := 3) (by decide +kernel) rfl,
   fun v0 v1 h Q => gx_ret (i := .return_) (len := 1) (by decide +kernel) rfl rfl (by simp only [mr_rt, if_pos]; rw [if_pos (by decide +kernel)])⟩
theorem S_mo_init_0 : (∀ (x : Nat) (st : List Value) (h : mr_h) (Q : Option Value → mr_h → Prop), mr_wp 116 0 [.ref x] st h Q = mr_wp 116 1 [.ref x] (.ref x :: st) h Q) ∧
    (∀ (v0 : Value) (a : Nat) (h : mr_h) (Q : Option Value → mr_h → Prop), mr_wp 116 1 [v0] [.ref a] h Q = mr_wp 116 4 [v0] [] h Q) ∧
    (∀ (x : Nat) (st : List Value) (h : mr_h) (Q : Option Value → mr_h → Prop), mr_wp 116 4 [.ref x] st h Q = mr_wp 116 5 [.ref x] (.ref x :: st) h Q) ∧
    (∀ (v0 : Value) (st : List Value) (h : mr_h) (Q : Option Value → mr_h → Prop), mr_wp 116 5 [v0] st h Q = mr_wp 116 7 [v0] (.int (120) :: st) h Q) ∧
    (∀ (v0 : Value) (st : List Value) (h : mr_h) (Q : Option Value → mr_h → Prop), mr_wp 116 7 [v0] (.int (120) :: st) h Q = mr_wp 116 9 [v0] (.ref h.2.1 :: st) (mr_add h 120 (mr_I 120 (fun _ => 0))) Q) ∧
    (∀ (v0 : Value) (a : Nat) (x : Nat) (st : List Value) (h : mr_h) (Q : Option Value → mr_h → Prop), mr_wp 116 9 [v0] (.ref x :: .ref a :: st) h Q = mr_pf (h.1 a) 11 1 (.ref x) (fun c => mr_wp 116 12 [v0] st (mr_up h a c) Q)) ∧
    (∀ (x : Nat) (st : List Value) (h : mr_h) (Q : Option Value → mr_h → Prop), mr_wp 116 12 [.ref x] st h Q = mr_wp 116 13 [.ref x] (.ref x :: st) h Q) ∧
    (∀ (v0 : Value) (st : List Value) (h : mr_h) (Q : Option Value → mr_h → Prop), mr_wp 116 13 [v0] st h Q = mr_wp 116 15 [v0] (.int (24) :: st) h Q) ∧
    (∀ (v0 : Value) (st : List Value) (h : mr_h) (Q : Option Value → mr_h → Prop), mr_wp 116 15 [v0] (.int (24) :: st) h Q = mr_wp 116 17 [v0] (.ref h.2.1 :: st) (mr_add h 24 (mr_I 24 (fun _ => 0))) Q) ∧
    (∀ (v0 : Value) (a : Nat) (x : Nat) (st : List Value) (h : mr_h) (Q : Option Value → mr_h → Prop), mr_wp 116 17 [v0] (.ref x :: .ref a :: st) h Q = mr_pf (h.1 a) 11 10 (.ref x) (fun c => mr_wp 116 20 [v0] st (mr_up h a c) Q)) ∧
    (∀ (x : Nat) (st : List Value) (h : mr_h) (Q : Option Value → mr_h → Prop), mr_wp 116 20 [.ref x] st h Q = mr_wp 116 21 [.ref x] (.ref x :: st) h Q) ∧
    (∀ (v0 : Value) (st : List Value) (h : mr_h) (Q : Option Value → mr_h → Prop), mr_wp 116 21 [v0] st h Q = mr_wp 116 23 [v0] (.int (24) :: st) h Q) ∧
    (∀ (v0 : Value) (st : List Value) (h : mr_h) (Q : Option Value → mr_h → Prop), mr_wp 116 23 [v0] (.int (24) :: st) h Q = mr_wp 116 25 [v0] (.ref h.2.1 :: st) (mr_add h 24 (mr_I 24 (fun _ => 0))) Q) ∧
    (∀ (v0 : Value) (a : Nat) (x : Nat) (st : List Value) (h : mr_h) (Q : Option Value → mr_h → Prop), mr_wp 116 25 [v0] (.ref x :: .ref a :: st) h Q = mr_pf (h.1 a) 11 12 (.ref x) (fun c => mr_wp 116 28 [v0] st (mr_up h a c) Q)) ∧
    (∀ (x : Nat) (st : List Value) (h : mr_h) (Q : Option Value → mr_h → Prop), mr_wp 116 28 [.ref x] st h Q = mr_wp 116 29 [.ref x] (.ref x :: st) h Q) ∧
    (∀ (v0 : Value) (st : List Value) (h : mr_h) (Q : Option Value → mr_h → Prop), mr_wp 116 29 [v0] st h Q = mr_wp 116 31 [v0] (.int (24) :: st) h Q) ∧
    (∀ (v0 : Value) (st : List Value) (h : mr_h) (Q : Option Value → mr_h → Prop), mr_wp 116 31 [v0] (.int (24) :: st) h Q = mr_wp 116 33 [v0] (.ref h.2.1 :: st) (mr_add h 24 (mr_I 24 (fun _ => 0))) Q) ∧
    (∀ (v0 : Value) (a : Nat) (x : Nat) (st : List Value) (h : mr_h) (Q : Option Value → mr_h → Prop), mr_wp 116 33 [v0] (.ref x :: .ref a :: st) h Q = mr_pf (h.1 a) 11 13 (.ref x) (fun c => mr_wp 116 36 [v0] st (mr_up h a c) Q)) ∧
    (∀ (x : Nat) (st : List Value) (h : mr_h) (Q : Option Value → mr_h → Prop), mr_wp 116 36 [.ref x] st h Q = mr_wp 116 37 [.ref x] (.ref x :: st) h Q) ∧
    (∀ (v0 : Value) (st : List Value) (h : mr_h) (Q : Option Value → mr_h → Prop), mr_wp 116 37 [v0] st h Q = mr_wp 116 39 [v0] (.int (48) :: st) h Q) ∧
    (∀ (v0 : Value) (st : List Value) (h : mr_h) (Q : Option Value → mr_h → Prop), mr_wp 116 39 [v0] (.int (48) :: st) h Q = mr_wp 116 41 [v0] (.ref h.2.1 :: st) (mr_add h 48 (mr_I 48 (fun _ => 0))) Q) ∧
    (∀ (v0 : Value) (a : Nat) (x : Nat) (st : List Value) (h : mr_h) (Q : Option Value → mr_h → Prop), mr_wp 116 41 [v0] (.ref x :: .ref a :: st) h Q = mr_pf (h.1 a) 11 14 (.ref x) (fun c => mr_wp 116 44 [v0] st (mr_up h a c) Q)) ∧
    (∀ (x : Nat) (st : List Value) (h : mr_h) (Q : Option Value → mr_h → Prop), mr_wp 116 44 [.ref x] st h Q = mr_wp 116 45 [.ref x] (.ref x :: st) h Q) ∧
    (∀ (v0 : Value) (st : List Value) (h : mr_h) (Q : Option Value → mr_h → Prop), mr_wp 116 45 [v0] st h Q = mr_wp 116 46 [v0] (.int (2) :: st) h Q) ∧
    (∀ (v0 : Value) (st : List Value) (h : mr_h) (Q : Option Value → mr_h → Prop), mr_wp 116 46 [v0] (.int (2) :: st) h Q = mr_wp 116 48 [v0] (.ref h.2.1 :: st) (mr_add h 2 (mr_Z 2 (fun _ => 0))) Q) ∧
    (∀ (v0 : Value) (a : Nat) (x : Nat) (st : List Value) (h : mr_h) (Q : Option Value → mr_h → Prop), mr_wp 116 48 [v0] (.ref x :: .ref a :: st) h Q = mr_pf (h.1 a) 11 15 (.ref x) (fun c => mr_wp 116 51 [v0] st (mr_up h a c) Q)) ∧
    (∀ (x : Nat) (st : List Value) (h : mr_h) (Q : Option Value → mr_h → Prop), mr_wp 116 51 [.ref x] st h Q = mr_wp 116 52 [.ref x] (.ref x :: st) h Q) ∧
    (∀ (v0 : Value) (st : List Value) (h : mr_h) (Q : Option Value → mr_h → Prop), mr_wp 116 52 [v0] st h Q = mr_wp 116 55 [v0] (.int (240) :: st) h Q) ∧
    (∀ (v0 : Value) (st : List Value) (h : mr_h) (Q : Option Value → mr_h → Prop), mr_wp 116 55 [v0] (.int (240) :: st) h Q = mr_wp 116 57 [v0] (.ref h.2.1 :: st) (mr_add h 240 (mr_I 240 (fun _ => 0))) Q) ∧
    (∀ (v0 : Value) (a : Nat) (x : Nat) (st : List Value) (h : mr_h) (Q : Option Value → mr_h → Prop), mr_wp 116 57 [v0] (.ref x :: .ref a :: st) h Q = mr_pf (h.1 a) 11 16 (.ref x) (fun c => mr_wp 116 60 [v0] st (mr_up h a c) Q)) ∧
    (∀ (x : Nat) (st : List Value) (h : mr_h) (Q : Option Value → mr_h → Prop), mr_wp 116 60 [.ref x] st h Q = mr_wp 116 61 [.ref x] (.ref x :: st) h Q) ∧
    (∀ (v0 : Value) (st : List Value) (h : mr_h) (Q : Option Value → mr_h → Prop), mr_wp 116 61 [v0] st h Q = mr_wp 116 63 [v0] (.int (6) :: st) h Q) ∧
    (∀ (v0 : Value) (st : List Value) (h : mr_h) (Q : Option Value → mr_h → Prop), mr_wp 116 63 [v0] (.int (6) :: st) h Q = mr_wp 116 65 [v0] (.ref h.2.1 :: st) (mr_add h 6 (mr_I 6 (fun _ => 0))) Q) ∧
    (∀ (v0 : Value) (a : Nat) (x : Nat) (st : List Value) (h : mr_h) (Q : Option Value → mr_h → Prop), mr_wp 116 65 [v0] (.ref x :: .ref a :: st) h Q = mr_pf (h.1 a) 11 18 (.ref x) (fun c => mr_wp 116 68 [v0] st (mr_up h a c) Q)) ∧
    (∀ (x : Nat) (st : List Value) (h : mr_h) (Q : Option Value → mr_h → Prop), mr_wp 116 68 [.ref x] st h Q = mr_wp 116 69 [.ref x] (.ref x :: st) h Q) ∧
    (∀ (v0 : Value) (st : List Value) (h : mr_h) (Q : Option Value → mr_h → Prop), mr_wp 116 69 [v0] st h Q = mr_wp 116 71 [v0] (.int (6) :: st) h Q) ∧
    (∀ (v0 : Value) (st : List Value) (h : mr_h) (Q : Option Value → mr_h → Prop), mr_wp 116 71 [v0] (.int (6) :: st) h Q = mr_wp 116 73 [v0] (.ref h.2.1 :: st) (mr_add h 6 (mr_I 6 (fun _ => 0))) Q) ∧
    (∀ (v0 : Value) (a : Nat) (x : Nat) (st : List Value) (h : mr_h) (Q : Option Value → mr_h → Prop), mr_wp 116 73 [v0] (.ref x :: .ref a :: st) h Q = mr_pf (h.1 a) 11 19 (.ref x) (fun c => mr_wp 116 76 [v0] st (mr_up h a c) Q)) ∧
    (∀ (x : Nat) (st : List Value) (h : mr_h) (Q : Option Value → mr_h → Prop), mr_wp 116 76 [.ref x] st h Q = mr_wp 116 77 [.ref x] (.ref x :: st) h Q) ∧
    (∀ (v0 : Value) (st : List Value) (h : mr_h) (Q : Option Value → mr_h → Prop), mr_wp 116 77 [v0] st h Q = mr_wp 116 79 [v0] (.int (6) :: st) h Q) :=
  ⟨fun x st h Q => gx_one (i := .aload_n 0) (len := 1) (by decide +kernel) rfl,
   fun v0 a h Q => gx_obj (x := 1) (by decide +kernel) (by decide +kernel) (Nat.le_of_ble_eq_true rfl),
   fun x st h Q => gx_one (i := .aload_n 0) (len := 1) (by decide +kernel) rfl,
   fun v0 st h Q => gx_one (i := .bipush 120) (len := 2) (by decide +kernel) rfl,
   fun v0 st h Q => gx_one (i := .newarray .int) (len := 2) (by decide +kernel) (by simp only [mr_one, mr_nar]; rw [if_pos trivial, if_neg (by decide)]; rfl),
   fun v0 a x st h Q => gx_put (x := 7) (by decide +kernel) (by decide +kernel) ⟨rfl, Or.inr ⟨rfl, rfl⟩⟩,
   fun x st h Q => gx_one (i := .aload_n 0) (len := 1) (by decide +kernel) rfl,
   fun v0 st h Q => gx_one (i := .bipush 24) (len := 2) (by decide +kernel) rfl,
   fun v0 st h Q => gx_one (i := .newarray .int) (len := 2) (by decide +kernel) (by simp only [mr_one, mr_nar]; rw [if_pos trivial, if_neg (by decide)]; rfl),
   fun v0 a x st h Q => gx_put (x := 13) (by decide +kernel) (by decide +kernel) ⟨rfl, Or.inr ⟨rfl, rfl⟩⟩,
   fun x st h Q => gx_one (i := .aload_n 0) (len := 1) (by decide +kernel) rfl,
   fun v0 st h Q => gx_one (i := .bipush 24) (len := 2) (by decide +kernel) rfl,
   fun v0 st h Q => gx_one (i := .newarray .int) (len := 2) (by decide +kernel) (by simp only [mr_one, mr_nar]; rw [if_pos trivial, if_neg (by decide)]; rfl),
   fun v0 a x st h Q => gx_put (x := 16) (by decide +kernel) (by decide +kernel) ⟨rfl, Or.inr ⟨rfl, rfl⟩⟩,
   fun x st h Q => gx_one (i := .aload_n 0) (len := 1) (by decide +kernel) rfl,
   fun v0 st h Q => gx_one (i := .bipush 24) (len := 2) (by decide +kernel) rfl,
   fun v0 st h Q => gx_one (i := .newarray .int) (len := 2) (by decide +kernel) (by simp only [mr_one, mr_nar]; rw [if_pos trivial, if_neg (by decide)]; rfl),
   fun v0 a x st h Q => gx_put (x := 19) (by decide +kernel) (by decide +kernel) ⟨rfl, Or.inr ⟨rfl, rfl⟩⟩,
   fun x st h Q => gx_one (i := .aload_n 0) (len := 1) (by decide +kernel) rfl,
   fun v0 st h Q => gx_one (i := .bipush 48) (len := 2) (by decide +kernel) rfl,
   fun v0 st h Q => gx_one (i := .newarray .int) (len := 2) (by decide +kernel) (by simp only [mr_one, mr_nar]; rw [if_pos trivial, if_neg (by decide)]; rfl),
   fun v0 a x st h Q => gx_put (x := 22) (by decide +kernel) (by decide +kernel) ⟨rfl, Or.inr ⟨rfl, rfl⟩⟩,
   fun x st h Q => gx_one (i := .aload_n 0) (len := 1) (by decide +kernel) rfl,
   fun v0 st h Q => gx_one (i := .iconst 2) (len := 1) (by decide +kernel) rfl,
   fun v0 st h Q => gx_one (i := .newarray .boolean) (len := 2) (by decide +kernel) (by simp only [mr_one, mr_nar]; rw [if_pos trivial, if_neg (by decide)]; rfl),
   fun v0 a x st h Q => gx_put (x := 25) (by decide +kernel) (by decide +kernel) ⟨rfl, Or.inr ⟨rfl, rfl⟩⟩,
   fun x st h Q => gx_one (i := .aload_n 0) (len := 1) (by decide +kernel) rfl,
   fun v0 st h Q => gx_one (i := .sipush 240) (len := 3) (by decide +kernel) rfl,
   fun v0 st h Q => gx_one (i := .newarray .int) (len := 2) (by decide +kernel) (by simp only [mr_one, mr_nar]; rw [if_pos trivial, if_neg (by decide)]; rfl),
   fun v0 a x st h Q => gx_put (x := 29) (by decide +kernel) (by decide +kernel) ⟨rfl, Or.inr ⟨rfl, rfl⟩⟩,
   fun x st h Q => gx_one (i := .aload_n 0) (len := 1) (by decide +kernel) rfl,
   fun v0 st h Q => gx_one (i := .bipush 6) (len := 2) (by decide +kernel) rfl,
   fun v0 st h Q => gx_one (i := .newarray .int) (len := 2) (by decide +kernel) (by simp only [mr_one, mr_nar]; rw [if_pos trivial, if_neg (by decide)]; rfl),
   fun v0 a x st h Q => gx_put (x := 32) (by decide +kernel) (by decide +kernel) ⟨rfl, Or.inr ⟨rfl, rfl⟩⟩,
   fun x st h Q => gx_one (i := .aload_n 0) (len := 1) (by decide +kernel) rfl,
   fun v0 st h Q => gx_one (i := .bipush 6) (len := 2) (by decide +kernel) rfl,
   fun v0 st h Q => gx_one (i := .newarray .int) (len := 2) (by decide +kernel) (by simp only [mr_one, mr_nar]; rw [if_pos trivial, if_neg (by decide)]; rfl),
   fun v0 a x st h Q => gx_put (x := 35) (by decide +kernel) (by decide +kernel) ⟨rfl, Or.inr ⟨rfl, rfl⟩⟩,
   fun x st h Q => gx_one (i := .aload_n 0) (len := 1) (by decide +kernel) rfl,
   fun v0 st h Q => gx_one (i := .bipush 6) (len := 2) (by decide +kernel) rfl⟩
theorem S_mo_init_1 : (∀ (v0 : Value) (st : List Value) (h : mr_h) (Q : Option Value → mr_h → Prop), mr_wp 116 79 [v0] (.int (6) :: st) h Q = mr_wp 116 81 [v0] (.ref h.2.1 :: st) (mr_add h 6 (mr_I 6 (fun _ => 0))) Q) ∧
    (∀ (v0 : Value) (a : Nat) (x : Nat) (st : List Value) (h : mr_h) (Q : Option Value → mr_h → Prop), mr_wp 116 81 [v0] (.ref x :: .ref a :: st) h Q = mr_pf (h.1 a) 11 20 (.ref x) (fun c => mr_wp 116 84 [v0] st (mr_up h a c) Q)) ∧
    (∀ (x : Nat) (st : List Value) (h : mr_h) (Q : Option Value → mr_h → Prop), mr_wp 116 84 [.ref x] st h Q = mr_wp 116 85 [.ref x] (.ref x :: st) h Q) ∧
    (∀ (v0 : Value) (st : List Value) (h : mr_h) (Q : Option Value → mr_h → Prop), mr_wp 116 85 [v0] st h Q = mr_wp 116 87 [v0] (.int (12) :: st) h Q) ∧
    (∀ (v0 : Value) (st : List Value) (h : mr_h) (Q : Option Value → mr_h → Prop), mr_wp 116 87 [v0] (.int (12) :: st) h Q = mr_wp 116 89 [v0] (.ref h.2.1 :: st) (mr_add h 12 (mr_I 12 (fun _ => 0))) Q) ∧
    (∀ (v0 : Value) (a : Nat) (x : Nat) (st : List Value) (h : mr_h) (Q : Option Value → mr_h → Prop), mr_wp 116 89 [v0] (.ref x :: .ref a :: st) h Q = mr_pf (h.1 a) 11 22 (.ref x) (fun c => mr_wp 116 92 [v0] st (mr_up h a c) Q)) ∧
    (∀ (x : Nat) (st : List Value) (h : mr_h) (Q : Option Value → mr_h → Prop), mr_wp 116 92 [.ref x] st h Q = mr_wp 116 93 [.ref x] (.ref x :: st) h Q) ∧
    (∀ (v0 : Value) (st : List Value) (h : mr_h) (Q : Option Value → mr_h → Prop), mr_wp 116 93 [v0] st h Q = mr_wp 116 95 [v0] (.int (12) :: st) h Q) ∧
    (∀ (v0 : Value) (st : List Value) (h : mr_h) (Q : Option Value → mr_h → Prop), mr_wp 116 95 [v0] (.int (12) :: st) h Q = mr_wp 116 97 [v0] (.ref h.2.1 :: st) (mr_add h 12 (mr_I 12 (fun _ => 0))) Q) ∧
    (∀ (v0 : Value) (a : Nat) (x : Nat) (st : List Value) (h : mr_h) (Q : Option Value → mr_h → Prop), mr_wp 116 97 [v0] (.ref x :: .ref a :: st) h Q = mr_pf (h.1 a) 11 23 (.ref x) (fun c => mr_wp 116 100 [v0] st (mr_up h a c) Q)) ∧
    (∀ (x : Nat) (st : List Value) (h : mr_h) (Q : Option Value → mr_h → Prop), mr_wp 116 100 [.ref x] st h Q = mr_wp 116 101 [.ref x] (.ref x :: st) h Q) ∧
    (∀ (v0 : Value) (st : List Value) (h : mr_h) (Q : Option Value → mr_h → Prop), mr_wp 116 101 [v0] st h Q = mr_wp 116 103 [v0] (.int (12) :: st) h Q) ∧
    (∀ (v0 : Value) (st : List Value) (h : mr_h) (Q : Option Value → mr_h → Prop), mr_wp 116 103 [v0] (.int (12) :: st) h Q = mr_wp 116 105 [v0] (.ref h.2.1 :: st) (mr_add h 12 (mr_I 12 (fun _ => 0))) Q) ∧
    (∀ (v0 : Value) (a : Nat) (x : Nat) (st : List Value) (h : mr_h) (Q : Option Value → mr_h → Prop), mr_wp 116 105 [v0] (.ref x :: .ref a :: st) h Q = mr_pf (h.1 a) 11 24 (.ref x) (fun c => mr_wp 116 108 [v0] st (mr_up h a c) Q)) ∧
    (∀ (x : Nat) (st : List Value) (h : mr_h) (Q : Option Value → mr_h → Prop), mr_wp 116 108 [.ref x] st h Q = mr_wp 116 109 [.ref x] (.ref x :: st) h Q) ∧
    (∀ (v0 : Value) (st : List Value) (h : mr_h) (Q : Option Value → mr_h → Prop), mr_wp 116 109 [v0] st h Q = mr_wp 116 111 [v0] (.int (12) :: st) h Q) ∧
    (∀ (v0 : Value) (st : List Value) (h : mr_h) (Q : Option Value → mr_h → Prop), mr_wp 116 111 [v0] (.int (12) :: st) h Q = mr_wp 116 113 [v0] (.ref h.2.1 :: st) (mr_add h 12 (mr_I 12 (fun _ => 0))) Q) ∧
    (∀ (v0 : Value) (a : Nat) (x : Nat) (st : List Value) (h : mr_h) (Q : Option Value → mr_h → Prop), mr_wp 116 113 [v0] (.ref x :: .ref a :: st) h Q = mr_pf (h.1 a) 11 25 (.ref x) (fun c => mr_wp 116 116 [v0] st (mr_up h a c) Q)) ∧
    (∀ (x : Nat) (st : List Value) (h : mr_h) (Q : Option Value → mr_h → Prop), mr_wp 116 116 [.ref x] st h Q = mr_wp 116 117 [.ref x] (.ref x :: st) h Q) ∧
    (∀ (v0 : Value) (st : List Value) (h : mr_h) (Q : Option Value → mr_h → Prop), mr_wp 116 117 [v0] st h Q = mr_wp 116 120 [v0] (.int (144) :: st) h Q) ∧
    (∀ (v0 : Value) (st : List Value) (h : mr_h) (Q : Option Value → mr_h → Prop), mr_wp 116 120 [v0] (.int (144) :: st) h Q = mr_wp 116 122 [v0] (.ref h.2.1 :: st) (mr_add h 144 (mr_I 144 (fun _ => 0))) Q) ∧
    (∀ (v0 : Value) (a : Nat) (x : Nat) (st : List Value) (h : mr_h) (Q : Option Value → mr_h → Prop), mr_wp 116 122 [v0] (.ref x :: .ref a :: st) h Q = mr_pf (h.1 a) 11 26 (.ref x) (fun c => mr_wp 116 125 [v0] st (mr_up h a c) Q)) ∧
    (∀ (x : Nat) (st : List Value) (h : mr_h) (Q : Option Value → mr_h → Prop), mr_wp 116 125 [.ref x] st h Q = mr_wp 116 126 [.ref x] (.ref x :: st) h Q) ∧
    (∀ (v0 : Value) (o : Nat) (h : mr_h) (Q : Option Value → mr_h → Prop), mr_wp 116 126 [v0] [.ref o] h Q = mr_rc (h.1 o) 11 (mr_run 117 [.ref o] h (fun v h' => mr_wp 116 129 [v0] (v.toList ++ []) h' Q))) ∧
    (∀ (x : Nat) (st : List Value) (h : mr_h) (Q : Option Value → mr_h → Prop), mr_wp 116 129 [.ref x] st h Q = mr_wp 116 130 [.ref x] (.ref x :: st) h Q) ∧
    (∀ (v0 : Value) (o : Nat) (h : mr_h) (Q : Option Value → mr_h → Prop), mr_wp 116 130 [v0] [.ref o] h Q = mr_rc (h.1 o) 11 (mr_run 118 [.ref o] h (fun v h' => mr_wp 116 133 [v0] (v.toList ++ []) h' Q))) ∧
    (∀ (x : Nat) (st : List Value) (h : mr_h) (Q : Option Value → mr_h → Prop), mr_wp 116 133 [.ref x] st h Q = mr_wp 116 134 [.ref x] (.ref x :: st) h Q) ∧
    (∀ (v0 : Value) (o : Nat) (h : mr_h) (Q : Option Value → mr_h → Prop), mr_wp 116 134 [v0] [.ref o] h Q = mr_rc (h.1 o) 11 (mr_run 119 [.ref o] h (fun v h' => mr_wp 116 137 [v0] (v.toList ++ []) h' Q))) ∧
    (∀ (v0 : Value) (h : mr_h) (Q : Option Value → mr_h → Prop), mr_wp 116 137 [v0] [] h Q = Q none h) :=
  ⟨fun v0 st h Q => gx_one (i := .newarray .int) (len := 2) (by decide +kernel) (by simp only [mr_one, mr_nar]; rw [if_pos trivial, if_neg (by decide)]; rfl),
   fun v0 a x st h Q => gx_put (x := 38) (by decide +kernel) (by decide +kernel) ⟨rfl, Or.inr ⟨rfl, rfl⟩⟩,
   fun x st h Q => gx_one (i := .aload_n 0) (len := 1) (by decide +kernel) rfl,
   fun v0 st h Q => gx_one (i := .bipush 12) (len := 2) (by decide +kernel) rfl,
   fun v0 st h Q => gx_one (i := .newarray .int) (len := 2) (by decide +kernel) (by simp only [mr_one, mr_nar]; rw [if_pos trivial, if_neg (by decide)]; rfl),
   fun v0 a x st h Q => gx_put (x := 41) (by decide +kernel) (by decide +kernel) ⟨rfl, Or.inr ⟨rfl, rfl⟩⟩,
   fun x st h Q => gx_one (i := .aload_n 0) (len := 1) (by decide +kernel) rfl,
   fun v0 st h Q => gx_one (i := .bipush 12) (len := 2) (by decide +kernel) rfl,
   fun v0 st h Q => gx_one (i := .newarray .int) (len := 2) (by decide +kernel) (by simp only [mr_one, mr_nar]; rw [if_pos trivial, if_neg (by decide)]; rfl),
   fun v0 a x st h Q => gx_put (x := 44) (by decide +kernel) (by decide +kernel) ⟨rfl, Or.inr ⟨rfl, rfl⟩⟩,
   fun x st h Q => gx_one (i := .aload_n 0) (len := 1) (by decide +kernel) rfl,
   fun v0 st h Q => gx_one (i := .bipush 12) (len := 2) (by decide +kernel) rfl,
   fun v0 st h Q => gx_one (i := .newarray .int) (len := 2) (by decide +kernel) (by simp only [mr_one, mr_nar]; rw [if_pos trivial, if_neg (by decide)]; rfl),
   fun v0 a x st h Q => gx_put (x := 47) (by decide +kernel) (by decide +kernel) ⟨rfl, Or.inr ⟨rfl, rfl⟩⟩,
   fun x st h Q => gx_one (i := .aload_n 0) (len := 1) (by decide +kernel) rfl,
   fun v0 st h Q => gx_one (i := .bipush 12) (len := 2) (by decide +kernel) rfl,
   fun v0 st h Q => gx_one (i := .newarray .int) (len := 2) (by decide +kernel) (by simp only [mr_one, mr_nar]; rw [if_pos trivial, if_neg (by decide)]; rfl),
   fun v0 a x st h Q => gx_put (x := 50) (by decide +kernel) (by decide +kernel) ⟨rfl, Or.inr ⟨rfl, rfl⟩⟩,
   fun x st h Q => gx_one (i := .aload_n 0) (len := 1) (by decide +kernel) rfl,
   fun v0 st h Q => gx_one (i := .sipush 144) (len := 3) (by decide +kernel) rfl,
   fun v0 st h Q => gx_one (i := .newarray .int) (len := 2) (by decide +kernel) (by simp only [mr_one, mr_nar]; rw [if_pos trivial, if_neg (by decide)]; rfl),
   fun v0 a x st h Q => gx_put (x := 53) (by decide +kernel) (by decide +kernel) ⟨rfl, Or.inr ⟨rfl, rfl⟩⟩,
   fun x st h Q => gx_one (i := .aload_n 0) (len := 1) (by decide +kernel) rfl,
   fun v0 o h Q => gx_virt (x := 56) (n := 0) (by decide +kernel) (by decide +kernel) rfl (Or.inl (Nat.le_of_ble_eq_true rfl)) (by show _ ≤ mr_mxl 117; rw [show mr_mxl 117 = 2 from by decide +kernel]; exact Nat.le_of_ble_eq_true rfl) (by decide +kernel),
   fun x st h Q => gx_one (i := .aload_n 0) (len := 1) (by decide +kernel) rfl,
   fun v0 o h Q => gx_virt (x := 59) (n := 0) (by decide +kernel) (by decide +kernel) rfl (Or.inl (Nat.le_of_ble_eq_true rfl)) (by show _ ≤ mr_mxl 118; rw [show mr_mxl 118 = 2 from by decide +kernel]; exact Nat.le_of_ble_eq_true rfl) (by decide +kernel),
   fun x st h Q => gx_one (i := .aload_n 0) (len := 1) (by decide +kernel) rfl,
   fun v0 o h Q => gx_virt (x := 62) (n := 0) (by decide +kernel) (by decide +kernel) rfl (Or.inl (Nat.le_of_ble_eq_true rfl)) (by show _ ≤ mr_mxl 119; rw [show mr_mxl 119 = 2 from by decide +kernel]; exact Nat.le_of_ble_eq_true rfl) (by decide +kernel),
   fun v0 h Q => gx_ret (i := .return_) (len := 1) (by decide +kernel) rfl rfl (by simp only [mr_rt, if_pos]; rw [if_pos (by decide +kernel)])⟩
theorem PFI : (∀ (c : Nat) (a0 v : Value) (K : mr_c → Prop), mr_pf (mr_O c [a0]) c 0 v K = K (mr_O c [v])) ∧
    (∀ (c : Nat) (a0 a1 v : Value) (K : mr_c → Prop), mr_pf (mr_O c [a0, a1]) c 0 v K = K (mr_O c [v, a1])) ∧
    (∀ (c : Nat) (a0 a1 v : Value) (K : mr_c → Prop), mr_pf (mr_O c [a0, a1]) c 1 v K = K (mr_O c [a0, v])) ∧
    (∀ (c : Nat) (a0 a1 a2 v : Value) (K : mr_c → Prop), mr_pf (mr_O c [a0, a1, a2]) c 0 v K = K (mr_O c [v, a1, a2])) ∧
    (∀ (c : Nat) (a0 a1 a2 v : Value) (K : mr_c → Prop), mr_pf (mr_O c [a0, a1, a2]) c 1 v K = K (mr_O c [a0, v, a2])) ∧
    (∀ (c : Nat) (a0 a1 a2 v : Value) (K : mr_c → Prop), mr_pf (mr_O c [a0, a1, a2]) c 2 v K = K (mr_O c [a0, a1, v])) ∧
    (∀ (c : Nat) (a0 a1 a2 a3 a4 a5 v : Value) (K : mr_c → Prop), mr_pf (mr_O c [a0, a1, a2, a3, a4, a5]) c 0 v K = K (mr_O c [v, a1, a2, a3, a4, a5])) ∧
    (∀ (c : Nat) (a0 a1 a2 a3 a4 a5 v : Value) (K : mr_c → Prop), mr_pf (mr_O c [a0, a1, a2, a3, a4, a5]) c 1 v K = K (mr_O c [a0, v, a2, a3, a4, a5])) ∧
    (∀ (c : Nat) (a0 a1 a2 a3 a4 a5 v : Value) (K : mr_c → Prop), mr_pf (mr_O c [a0, a1, a2, a3, a4, a5]) c 2 v K = K (mr_O c [a0, a1, v, a3, a4, a5])) ∧
    (∀ (c : Nat) (a0 a1 a2 a3 a4 a5 v : Value) (K : mr_c → Prop), mr_pf (mr_O c [a0, a1, a2, a3, a4, a5]) c 3 v K = K (mr_O c [a0, a1, a2, v, a4, a5])) ∧
    (∀ (c : Nat) (a0 a1 a2 a3 a4 a5 v : Value) (K : mr_c → Prop), mr_pf (mr_O c [a0, a1, a2, a3, a4, a5]) c 4 v K = K (mr_O c [a0, a1, a2, a3, v, a5])) ∧
    (∀ (c : Nat) (a0 a1 a2 a3 a4 a5 v : Value) (K : mr_c → Prop), mr_pf (mr_O c [a0, a1, a2, a3, a4, a5]) c 5 v K = K (mr_O c [a0, a1, a2, a3, a4, v])) ∧
    (∀ (c : Nat) (a0 a1 a2 a3 a4 a5 a6 v : Value) (K : mr_c → Prop), mr_pf (mr_O c [a0, a1, a2, a3, a4, a5, a6]) c 0 v K = K (mr_O c [v, a1, a2, a3, a4, a5, a6])) ∧
    (∀ (c : Nat) (a0 a1 a2 a3 a4 a5 a6 v : Value) (K : mr_c → Prop), mr_pf (mr_O c [a0, a1, a2, a3, a4, a5, a6]) c 1 v K = K (mr_O c [a0, v, a2, a3, a4, a5, a6])) ∧
    (∀ (c : Nat) (a0 a1 a2 a3 a4 a5 a6 v : Value) (K : mr_c → Prop), mr_pf (mr_O c [a0, a1, a2, a3, a4, a5, a6]) c 2 v K = K (mr_O c [a0, a1, v, a3, a4, a5, a6])) ∧
    (∀ (c : Nat) (a0 a1 a2 a3 a4 a5 a6 v : Value) (K : mr_c → Prop), mr_pf (mr_O c [a0, a1, a2, a3, a4, a5, a6]) c 3 v K = K (mr_O c [a0, a1, a2, v, a4, a5, a6])) ∧
    (∀ (c : Nat) (a0 a1 a2 a3 a4 a5 a6 v : Value) (K : mr_c → Prop), mr_pf (mr_O c [a0, a1, a2, a3, a4, a5, a6]) c 4 v K = K (mr_O c [a0, a1, a2, a3, v, a5, a6])) ∧
    (∀ (c : Nat) (a0 a1 a2 a3 a4 a5 a6 v : Value) (K : mr_c → Prop), mr_pf (mr_O c [a0, a1, a2, a3, a4, a5, a6]) c 5 v K = K (mr_O c [a0, a1, a2, a3, a4, v, a6])) ∧
    (∀ (c : Nat) (a0 a1 a2 a3 a4 a5 a6 v : Value) (K : mr_c → Prop), mr_pf (mr_O c [a0, a1, a2, a3, a4, a5, a6]) c 6 v K = K (mr_O c [a0, a1, a2, a3, a4, a5, v])) ∧
    (∀ (c : Nat) (a0 a1 a2 a3 a4 a5 a6 a7 a8 a9 v : Value) (K : mr_c → Prop), mr_pf (mr_O c [a0, a1, a2, a3, a4, a5, a6, a7, a8, a9]) c 0 v K = K (mr_O c [v, a1, a2, a3, a4, a5, a6, a7, a8, a9])) ∧
    (∀ (c : Nat) (a0 a1 a2 a3 a4 a5 a6 a7 a8 a9 v : Value) (K : mr_c → Prop), mr_pf (mr_O c [a0, a1, a2, a3, a4, a5, a6, a7, a8, a9]) c 1 v K = K (mr_O c [a0, v, a2, a3, a4, a5, a6, a7, a8, a9])) ∧
    (∀ (c : Nat) (a0 a1 a2 a3 a4 a5 a6 a7 a8 a9 v : Value) (K : mr_c → Prop), mr_pf (mr_O c [a0, a1, a2, a3, a4, a5, a6, a7, a8, a9]) c 2 v K = K (mr_O c [a0, a1, v, a3, a4, a5, a6, a7, a8, a9])) ∧
    (∀ (c : Nat) (a0 a1 a2 a3 a4 a5 a6 a7 a8 a9 v : Value) (K : mr_c → Prop), mr_pf (mr_O c [a0, a1, a2, a3, a4, a5, a6, a7, a8, a9]) c 3 v K = K (mr_O c [a0, a1, a2, v, a4, a5, a6, a7, a8, a9])) ∧
    (∀ (c : Nat) (a0 a1 a2 a3 a4 a5 a6 a7 a8 a9 v : Value) (K : mr_c → Prop), mr_pf (mr_O c [a0, a1, a2, a3, a4, a5, a6, a7, a8, a9]) c 4 v K = K (mr_O c [a0, a1, a2, a3, v, a5, a6, a7, a8, a9])) ∧
    (∀ (c : Nat) (a0 a1 a2 a3 a4 a5 a6 a7 a8 a9 v : Value) (K : mr_c → Prop), mr_pf (mr_O c [a0, a1, a2, a3, a4, a5, a6, a7, a8, a9]) c 5 v K = K (mr_O c [a0, a1, a2, a3, a4, v, a6, a7, a8, a9])) ∧
    (∀ (c : Nat) (a0 a1 a2 a3 a4 a5 a6 a7 a8 a9 v : Value) (K : mr_c → Prop), mr_pf (mr_O c [a0, a1, a2, a3, a4, a5, a6, a7, a8, a9]) c 6 v K = K (mr_O c [a0, a1, a2, a3, a4, a5, v, a7, a8, a9])) ∧
    (∀ (c : Nat) (a0 a1 a2 a3 a4 a5 a6 a7 a8 a9 v : Value) (K : mr_c → Prop), mr_pf (mr_O c [a0, a1, a2, a3, a4, a5, a6, a7, a8, a9]) c 7 v K = K (mr_O c [a0, a1, a2, a3, a4, a5, a6, v, a8, a9])) ∧
    (∀ (c : Nat) (a0 a1 a2 a3 a4 a5 a6 a7 a8 a9 v : Value) (K : mr_c → Prop), mr_pf (mr_O c [a0, a1, a2, a3, a4, a5, a6, a7, a8, a9]) c 8 v K = K (mr_O c [a0, a1, a2, a3, a4, a5, a6, a7, v, a9])) ∧
    (∀ (c : Nat) (a0 a1 a2 a3 a4 a5 a6 a7 a8 a9 v : Value) (K : mr_c → Prop), mr_pf (mr_O c [a0, a1, a2, a3, a4, a5, a6, a7, a8, a9]) c 9 v K = K (mr_O c [a0, a1, a2, a3, a4, a5, a6, a7, a8, v])) ∧
    (∀ (c : Nat) (a0 a1 a2 a3 a4 a5 a6 a7 a8 a9 a10 v : Value) (K : mr_c → Prop), mr_pf (mr_O c [a0, a1, a2, a3, a4, a5, a6, a7, a8, a9, a10]) c 0 v K = K (mr_O c [v, a1, a2, a3, a4, a5, a6, a7, a8, a9, a10])) ∧
    (∀ (c : Nat) (a0 a1 a2 a3 a4 a5 a6 a7 a8 a9 a10 v : Value) (K : mr_c → Prop), mr_pf (mr_O c [a0, a1, a2, a3, a4, a5, a6, a7, a8, a9, a10]) c 1 v K = K (mr_O c [a0, v, a2, a3, a4, a5, a6, a7, a8, a9, a10])) ∧
    (∀ (c : Nat) (a0 a1 a2 a3 a4 a5 a6 a7 a8 a9 a10 v : Value) (K : mr_c → Prop), mr_pf (mr_O c [a0, a1, a2, a3, a4, a5, a6, a7, a8, a9, a10]) c 2 v K = K (mr_O c [a0, a1, v, a3, a4, a5, a6, a7, a8, a9, a10])) ∧
    (∀ (c : Nat) (a0 a1 a2 a3 a4 a5 a6 a7 a8 a9 a10 v : Value) (K : mr_c → Prop), mr_pf (mr_O c [a0, a1, a2, a3, a4, a5, a6, a7, a8, a9, a10]) c 3 v K = K (mr_O c [a0, a1, a2, v, a4, a5, a6, a7, a8, a9, a10])) ∧
    (∀ (c : Nat) (a0 a1 a2 a3 a4 a5 a6 a7 a8 a9 a10 v : Value) (K : mr_c → Prop), mr_pf (mr_O c [a0, a1, a2, a3, a4, a5, a6, a7, a8, a9, a10]) c 4 v K = K (mr_O c [a0, a1, a2, a3, v, a5, a6, a7, a8, a9, a10])) ∧
    (∀ (c : Nat) (a0 a1 a2 a3 a4 a5 a6 a7 a8 a9 a10 v : Value) (K : mr_c → Prop), mr_pf (mr_O c [a0, a1, a2, a3, a4, a5, a6, a7, a8, a9, a10]) c 5 v K = K (mr_O c [a0, a1, a2, a3, a4, v, a6, a7, a8, a9, a10])) ∧
    (∀ (c : Nat) (a0 a1 a2 a3 a4 a5 a6 a7 a8 a9 a10 v : Value) (K : mr_c → Prop), mr_pf (mr_O c [a0, a1, a2, a3, a4, a5, a6, a7, a8, a9, a10]) c 6 v K = K (mr_O c [a0, a1, a2, a3, a4, a5, v, a7, a8, a9, a10])) ∧
    (∀ (c : Nat) (a0 a1 a2 a3 a4 a5 a6 a7 a8 a9 a10 v : Value) (K : mr_c → Prop), mr_pf (mr_O c [a0, a1, a2, a3, a4, a5, a6, a7, a8, a9, a10]) c 7 v K = K (mr_O c [a0, a1, a2, a3, a4, a5, a6, v, a8, a9, a10])) ∧
    (∀ (c : Nat) (a0 a1 a2 a3 a4 a5 a6 a7 a8 a9 a10 v : Value) (K : mr_c → Prop), mr_pf (mr_O c [a0, a1, a2, a3, a4, a5, a6, a7, a8, a9, a10]) c 8 v K = K (mr_O c [a0, a1, a2, a3, a4, a5, a6, a7, v, a9, a10])) ∧
    (∀ (c : Nat) (a0 a1 a2 a3 a4 a5 a6 a7 a8 a9 a10 v : Value) (K : mr_c → Prop), mr_pf (mr_O c [a0, a1, a2, a3, a4, a5, a6, a7, a8, a9, a10]) c 9 v K = K (mr_O c [a0, a1, a2, a3, a4, a5, a6, a7, a8, v, a10])) ∧
    (∀ (c : Nat) (a0 a1 a2 a3 a4 a5 a6 a7 a8 a9 a10 v : Value) (K : mr_c → Prop), mr_pf (mr_O c [a0, a1, a2, a3, a4, a5, a6, a7, a8, a9, a10]) c 10 v K = K (mr_O c [a0, a1, a2, a3, a4, a5, a6, a7, a8, a9, v])) ∧
    (∀ (c : Nat) (a0 a1 a2 a3 a4 a5 a6 a7 a8 a9 a10 a11 a12 a13 a14 a15 a16 a17 a18 a19 a20 a21 a22 a23 a24 a25 a26 a27 v : Value) (K : mr_c → Prop), mr_pf (mr_O c [a0, a1, a2, a3, a4, a5, a6, a7, a8, a9, a10, a11, a12, a13, a14, a15, a16, a17, a18, a19, a20, a21, a22, a23, a24, a25, a26, a27]) c 0 v K = K (mr_O c [v, a1, a2, a3, a4, a5, a6, a7, a8, a9, a10, a11, a12, a13, a14, a15, a16, a17, a18, a19, a20, a21, a22, a23, a24, a25, a26, a27])) ∧
    (∀ (c : Nat) (a0 a1 a2 a3 a4 a5 a6 a7 a8 a9 a10 a11 a12 a13 a14 a15 a16 a17 a18 a19 a20 a21 a22 a23 a24 a25 a26 a27 v : Value) (K : mr_c → Prop), mr_pf (mr_O c [a0, a1, a2, a3, a4, a5, a6, a7, a8, a9, a10, a11, a12, a13, a14, a15, a16, a17, a18, a19, a20, a21, a22, a23, a24, a25, a26, a27]) c 1 v K = K (mr_O c [a0, v, a2, a3, a4, a5, a6, a7, a8, a9, a10, a11, a12, a13, a14, a15, a16, a17, a18, a19, a20, a21, a22, a23, a24, a25, a26, a27])) ∧
    (∀ (c : Nat) (a0 a1 a2 a3 a4 a5 a6 a7 a8 a9 a10 a11 a12 a13 a14 a15 a16 a17 a18 a19 a20 a21 a22 a23 a24 a25 a26 a27 v : Value) (K : mr_c → Prop), mr_pf (mr_O c [a0, a1, a2, a3, a4, a5, a6, a7, a8, a9, a10, a11, a12, a13, a14, a15, a16, a17, a18, a19, a20, a21, a22, a23, a24, a25, a26, a27]) c 2 v K = K (mr_O c [a0, a1, v, a3, a4, a5, a6, a7, a8, a9, a10, a11, a12, a13, a14, a15, a16, a17, a18, a19, a20, a21, a22, a23, a24, a25, a26, a27])) ∧
    (∀ (c : Nat) (a0 a1 a2 a3 a4 a5 a6 a7 a8 a9 a10 a11 a12 a13 a14 a15 a16 a17 a18 a19 a20 a21 a22 a23 a24 a25 a26 a27 v : Value) (K : mr_c → Prop), mr_pf (mr_O c [a0, a1, a2, a3, a4, a5, a6, a7, a8, a9, a10, a11, a12, a13, a14, a15, a16, a17, a18, a19, a20, a21, a22, a23, a24, a25, a26, a27]) c 3 v K = K (mr_O c [a0, a1, a2, v, a4, a5, a6, a7, a8, a9, a10, a11, a12, a13, a14, a15, a16, a17, a18, a19, a20, a21, a22, a23, a24, a25, a26, a27])) ∧
    (∀ (c : Nat) (a0 a1 a2 a3 a4 a5 a6 a7 a8 a9 a10 a11 a12 a13 a14 a15 a16 a17 a18 a19 a20 a21 a22 a23 a24 a25 a26 a27 v : Value) (K : mr_c → Prop), mr_pf (mr_O c [a0, a1, a2, a3, a4, a5, a6, a7, a8, a9, a10, a11, a12, a13, a14, a15, a16, a17, a18, a19, a20, a21, a22, a23, a24, a25, a26, a27]) c 4 v K = K (mr_O c [a0, a1, a2, a3, v, a5, a6, a7, a8, a9, a10, a11, a12, a13, a14, a15, a16, a17, a18, a19, a20, a21, a22, a23, a24, a25, a26, a27])) ∧
    (∀ (c : Nat) (a0 a1 a2 a3 a4 a5 a6 a7 a8 a9 a10 a11 a12 a13 a14 a15 a16 a17 a18 a19 a20 a21 a22 a23 a24 a25 a26 a27 v : Value) (K : mr_c → Prop), mr_pf (mr_O c [a0, a1, a2, a3, a4, a5, a6, a7, a8, a9, a10, a11, a12, a13, a14, a15, a16, a17, a18, a19, a20, a21, a22, a23, a24, a25, a26, a27]) c 5 v K = K (mr_O c [a0, a1, a2, a3, a4, v, a6, a7, a8, a9, a10, a11, a12, a13, a14, a15, a16, a17, a18, a19, a20, a21, a22, a23, a24, a25, a26, a27])) ∧
    (∀ (c : Nat) (a0 a1 a2 a3 a4 a5 a6 a7 a8 a9 a10 a11 a12 a13 a14 a15 a16 a17 a18 a19 a20 a21 a22 a23 a24 a25 a26 a27 v : Value) (K : mr_c → Prop), mr_pf (mr_O c [a0, a1, a2, a3, a4, a5, a6, a7, a8, a9, a10, a11, a12, a13, a14, a15, a16, a17, a18, a19, a20, a21, a22, a23, a24, a25, a26, a27]) c 6 v K = K (mr_O c [a0, a1, a2, a3, a4, a5, v, a7, a8, a9, a10, a11, a12, a13, a14, a15, a16, a17, a18, a19, a20, a21, a22, a23, a24, a25, a26, a27])) ∧
    (∀ (c : Nat) (a0 a1 a2 a3 a4 a5 a6 a7 a8 a9 a10 a11 a12 a13 a14 a15 a16 a17 a18 a19 a20 a21 a22 a23 a24 a25 a26 a27 v : Value) (K : mr_c → Prop), mr_pf (mr_O c [a0, a1, a2, a3, a4, a5, a6, a7, a8, a9, a10, a11, a12, a13, a14, a15, a16, a17, a18, a19, a20, a21, a22, a23, a24, a25, a26, a27]) c 7 v K = K (mr_O c [a0, a1, a2, a3, a4, a5, a6, v, a8, a9, a10, a11, a12, a13, a14, a15, a16, a17, a18, a19, a20, a21, a22, a23, a24, a25, a26, a27])) ∧
    (∀ (c : Nat) (a0 a1 a2 a3 a4 a5 a6 a7 a8 a9 a10 a11 a12 a13 a14 a15 a16 a17 a18 a19 a20 a21 a22 a23 a24 a25 a26 a27 v : Value) (K : mr_c → Prop), mr_pf (mr_O c [a0, a1, a2, a3, a4, a5, a6, a7, a8, a9, a10, a11, a12, a13, a14, a15, a16, a17, a18, a19, a20, a21, a22, a23, a24, a25, a26, a27]) c 8 v K = K (mr_O c [a0, a1, a2, a3, a4, a5, a6, a7, v, a9, a10, a11, a12, a13, a14, a15, a16, a17, a18, a19, a20, a21, a22, a23, a24, a25, a26, a27])) ∧
    (∀ (c : Nat) (a0 a1 a2 a3 a4 a5 a6 a7 a8 a9 a10 a11 a12 a13 a14 a15 a16 a17 a18 a19 a20 a21 a22 a23 a24 a25 a26 a27 v : Value) (K : mr_c → Prop), mr_pf (mr_O c [a0, a1, a2, a3, a4, a5, a6, a7, a8, a9, a10, a11, a12, a13, a14, a15, a16, a17, a18, a19, a20, a21, a22, a23, a24, a25, a26, a27]) c 9 v K = K (mr_O c [a0, a1, a2, a3, a4, a5, a6, a7, a8, v, a10, a11, a12, a13, a14, a15, a16, a17, a18, a19, a20, a21, a22, a23, a24, a25, a26, a27])) ∧
    (∀ (c : Nat) (a0 a1 a2 a3 a4 a5 a6 a7 a8 a9 a10 a11 a12 a13 a14 a15 a16 a17 a18 a19 a20 a21 a22 a23 a24 a25 a26 a27 v : Value) (K : mr_c → Prop), mr_pf (mr_O c [a0, a1, a2, a3, a4, a5, a6, a7, a8, a9, a10, a11, a12, a13, a14, a15, a16, a17, a18, a19, a20, a21, a22, a23, a24, a25, a26, a27]) c 10 v K = K (mr_O c [a0, a1, a2, a3, a4, a5, a6, a7, a8, a9, v, a11, a12, a13, a14, a15, a16, a17, a18, a19, a20, a21, a22, a23, a24, a25, a26, a27])) ∧
    (∀ (c : Nat) (a0 a1 a2 a3 a4 a5 a6 a7 a8 a9 a10 a11 a12 a13 a14 a15 a16 a17 a18 a19 a20 a21 a22 a23 a24 a25 a26 a27 v : Value) (K : mr_c → Prop), mr_pf (mr_O c [a0, a1, a2, a3, a4, a5, a6, a7, a8, a9, a10, a11, a12, a13, a14, a15, a16, a17, a18, a19, a20, a21, a22, a23, a24, a25, a26, a27]) c 11 v K = K (mr_O c [a0, a1, a2, a3, a4, a5, a6, a7, a8, a9, a10, v, a12, a13, a14, a15, a16, a17, a18, a19, a20, a21, a22, a23, a24, a25, a26, a27])) ∧
    (∀ (c : Nat) (a0 a1 a2 a3 a4 a5 a6 a7 a8 a9 a10 a11 a12 a13 a14 a15 a16 a17 a18 a19 a20 a21 a22 a23 a24 a25 a26 a27 v : Value) (K : mr_c → Prop), mr_pf (mr_O c [a0, a1, a2, a3, a4, a5, a6, a7, a8, a9, a10, a11, a12, a13, a14, a15, a16, a17, a18, a19, a20, a21, a22, a23, a24, a25, a26, a27]) c 12 v K = K (mr_O c [a0, a1, a2, a3, a4, a5, a6, a7, a8, a9, a10, a11, v, a13, a14, a15, a16, a17, a18, a19, a20, a21, a22, a23, a24, a25, a26, a27])) ∧
    (∀ (c : Nat) (a0 a1 a2 a3 a4 a5 a6 a7 a8 a9 a10 a11 a12 a13 a14 a15 a16 a17 a18 a19 a20 a21 a22 a23 a24 a25 a26 a27 v : Value) (K : mr_c → Prop), mr_pf (mr_O c [a0, a1, a2, a3, a4, a5, a6, a7, a8, a9, a10, a11, a12, a13, a14, a15, a16, a17, a18, a19, a20, a21, a22, a23, a24, a25, a26, a27]) c 13 v K = K (mr_O c [a0, a1, a2, a3, a4, a5, a6, a7, a8, a9, a10, a11, a12, v, a14, a15, a16, a17, a18, a19, a20, a21, a22, a23, a24, a25, a26, a27])) ∧
    (∀ (c : Nat) (a0 a1 a2 a3 a4 a5 a6 a7 a8 a9 a10 a11 a12 a13 a14 a15 a16 a17 a18 a19 a20 a21 a22 a23 a24 a25 a26 a27 v : Value) (K : mr_c → Prop), mr_pf (mr_O c [a0, a1, a2, a3, a4, a5, a6, a7, a8, a9, a10, a11, a12, a13, a14, a15, a16, a17, a18, a19, a20, a21, a22, a23, a24, a25, a26, a27]) c 14 v K = K (mr_O c [a0, a1, a2, a3, a4, a5, a6, a7, a8, a9, a10, a11, a12, a13, v, a15, a16, a17, a18, a19, a20, a21, a22, a23, a24, a25, a26, a27])) ∧
    (∀ (c : Nat) (a0 a1 a2 a3 a4 a5 a6 a7 a8 a9 a10 a11 a12 a13 a14 a15 a16 a17 a18 a19 a20 a21 a22 a23 a24 a25 a26 a27 v : Value) (K : mr_c → Prop), mr_pf (mr_O c [a0, a1, a2, a3, a4, a5, a6, a7, a8, a9, a10, a11, a12, a13, a14, a15, a16, a17, a18, a19, a20, a21, a22, a23, a24, a25, a26, a27]) c 15 v K = K (mr_O c [a0, a1, a2, a3, a4, a5, a6, a7, a8, a9, a10, a11, a12, a13, a14, v, a16, a17, a18, a19, a20, a21, a22, a23, a24, a25, a26, a27])) ∧
    (∀ (c : Nat) (a0 a1 a2 a3 a4 a5 a6 a7 a8 a9 a10 a11 a12 a13 a14 a15 a16 a17 a18 a19 a20 a21 a22 a23 a24 a25 a26 a27 v : Value) (K : mr_c → Prop), mr_pf (mr_O c [a0, a1, a2, a3, a4, a5, a6, a7, a8, a9, a10, a11, a12, a13, a14, a15, a16, a17, a18, a19, a20, a21, a22, a23, a24, a25, a26, a27]) c 16 v K = K (mr_O c [a0, a1, a2, a3, a4, a5, a6, a7, a8, a9, a10, a11, a12, a13, a14, a15, v, a17, a18, a19, a20, a21, a22, a23, a24, a25, a26, a27])) ∧
    (∀ (c : Nat) (a0 a1 a2 a3 a4 a5 a6 a7 a8 a9 a10 a11 a12 a13 a14 a15 a16 a17 a18 a19 a20 a21 a22 a23 a24 a25 a26 a27 v : Value) (K : mr_c → Prop), mr_pf (mr_O c [a0, a1, a2, a3, a4, a5, a6, a7, a8, a9, a10, a11, a12, a13, a14, a15, a16, a17, a18, a19, a20, a21, a22, a23, a24, a25, a26, a27]) c 17 v K = K (mr_O c [a0, a1, a2, a3, a4, a5, a6, a7, a8, a9, a10, a11, a12, a13, a14, a15, a16, v, a18, a19, a20, a21, a22, a23, a24, a25, a26, a27])) ∧
    (∀ (c : Nat) (a0 a1 a2 a3 a4 a5 a6 a7 a8 a9 a10 a11 a12 a13 a14 a15 a16 a17 a18 a19 a20 a21 a22 a23 a24 a25 a26 a27 v : Value) (K : mr_c → Prop), mr_pf (mr_O c [a0, a1, a2, a3, a4, a5, a6, a7, a8, a9, a10, a11, a12, a13, a14, a15, a16, a17, a18, a19, a20, a21, a22, a23, a24, a25, a26, a27]) c 18 v K = K (mr_O c [a0, a1, a2, a3, a4, a5, a6, a7, a8, a9, a10, a11, a12, a13, a14, a15, a16, a17, v, a19, a20, a21, a22, a23, a24, a25, a26, a27])) ∧
    (∀ (c : Nat) (a0 a1 a2 a3 a4 a5 a6 a7 a8 a9 a10 a11 a12 a13 a14 a15 a16 a17 a18 a19 a20 a21 a22 a23 a24 a25 a26 a27 v : Value) (K : mr_c → Prop), mr_pf (mr_O c [a0, a1, a2, a3, a4, a5, a6, a7, a8, a9, a10, a11, a12, a13, a14, a15, a16, a17, a18, a19, a20, a21, a22, a23, a24, a25, a26, a27]) c 19 v K = K (mr_O c [a0, a1, a2, a3, a4, a5, a6, a7, a8, a9, a10, a11, a12, a13, a14, a15, a16, a17, a18, v, a20, a21, a22, a23, a24, a25, a26, a27])) ∧
    (∀ (c : Nat) (a0 a1 a2 a3 a4 a5 a6 a7 a8 a9 a10 a11 a12 a13 a14 a15 a16 a17 a18 a19 a20 a21 a22 a23 a24 a25 a26 a27 v : Value) (K : mr_c → Prop), mr_pf (mr_O c [a0, a1, a2, a3, a4, a5, a6, a7, a8, a9, a10, a11, a12, a13, a14, a15, a16, a17, a18, a19, a20, a21, a22, a23, a24, a25, a26, a27]) c 20 v K = K (mr_O c [a0, a1, a2, a3, a4, a5, a6, a7, a8, a9, a10, a11, a12, a13, a14, a15, a16, a17, a18, a19, v, a21, a22, a23, a24, a25, a26, a27])) ∧
    (∀ (c : Nat) (a0 a1 a2 a3 a4 a5 a6 a7 a8 a9 a10 a11 a12 a13 a14 a15 a16 a17 a18 a19 a20 a21 a22 a23 a24 a25 a26 a27 v : Value) (K : mr_c → Prop), mr_pf (mr_O c [a0, a1, a2, a3, a4, a5, a6, a7, a8, a9, a10, a11, a12, a13, a14, a15, a16, a17, a18, a19, a20, a21, a22, a23, a24, a25, a26, a27]) c 21 v K = K (mr_O c [a0, a1, a2, a3, a4, a5, a6, a7, a8, a9, a10, a11, a12, a13, a14, a15, a16, a17, a18, a19, a20, v, a22, a23, a24, a25, a26, a27])) ∧
    (∀ (c : Nat) (a0 a1 a2 a3 a4 a5 a6 a7 a8 a9 a10 a11 a12 a13 a14 a15 a16 a17 a18 a19 a20 a21 a22 a23 a24 a25 a26 a27 v : Value) (K : mr_c → Prop), mr_pf (mr_O c [a0, a1, a2, a3, a4, a5, a6, a7, a8, a9, a10, a11, a12, a13, a14, a15, a16, a17, a18, a19, a20, a21, a22, a23, a24, a25, a26, a27]) c 22 v K = K (mr_O c [a0, a1, a2, a3, a4, a5, a6, a7, a8, a9, a10, a11, a12, a13, a14, a15, a16, a17, a18, a19, a20, a21, v, a23, a24, a25, a26, a27])) ∧
    (∀ (c : Nat) (a0 a1 a2 a3 a4 a5 a6 a7 a8 a9 a10 a11 a12 a13 a14 a15 a16 a17 a18 a19 a20 a21 a22 a23 a24 a25 a26 a27 v : Value) (K : mr_c → Prop), mr_pf (mr_O c [a0, a1, a2, a3, a4, a5, a6, a7, a8, a9, a10, a11, a12, a13, a14, a15, a16, a17, a18, a19, a20, a21, a22, a23, a24, a25, a26, a27]) c 23 v K = K (mr_O c [a0, a1, a2, a3, a4, a5, a6, a7, a8, a9, a10, a11, a12, a13, a14, a15, a16, a17, a18, a19, a20, a21, a22, v, a24, a25, a26, a27])) ∧
    (∀ (c : Nat) (a0 a1 a2 a3 a4 a5 a6 a7 a8 a9 a10 a11 a12 a13 a14 a15 a16 a17 a18 a19 a20 a21 a22 a23 a24 a25 a26 a27 v : Value) (K : mr_c → Prop), mr_pf (mr_O c [a0, a1, a2, a3, a4, a5, a6, a7, a8, a9, a10, a11, a12, a13, a14, a15, a16, a17, a18, a19, a20, a21, a22, a23, a24, a25, a26, a27]) c 24 v K = K (mr_O c [a0, a1, a2, a3, a4, a5, a6, a7, a8, a9, a10, a11, a12, a13, a14, a15, a16, a17, a18, a19, a20, a21, a22, a23, v, a25, a26, a27])) ∧
    (∀ (c : Nat) (a0 a1 a2 a3 a4 a5 a6 a7 a8 a9 a10 a11 a12 a13 a14 a15 a16 a17 a18 a19 a20 a21 a22 a23 a24 a25 a26 a27 v : Value) (K : mr_c → Prop), mr_pf (mr_O c [a0, a1, a2, a3, a4, a5, a6, a7, a8, a9, a10, a11, a12, a13, a14, a15, a16, a17, a18, a19, a20, a21, a22, a23, a24, a25, a26, a27]) c 25 v K = K (mr_O c [a0, a1, a2, a3, a4, a5, a6, a7, a8, a9, a10, a11, a12, a13, a14, a15, a16, a17, a18, a19, a20, a21, a22, a23, a24, v, a26, a27])) ∧
    (∀ (c : Nat) (a0 a1 a2 a3 a4 a5 a6 a7 a8 a9 a10 a11 a12 a13 a14 a15 a16 a17 a18 a19 a20 a21 a22 a23 a24 a25 a26 a27 v : Value) (K : mr_c → Prop), mr_pf (mr_O c [a0, a1, a2, a3, a4, a5, a6, a7, a8, a9, a10, a11, a12, a13, a14, a15, a16, a17, a18, a19, a20, a21, a22, a23, a24, a25, a26, a27]) c 26 v K = K (mr_O c [a0, a1, a2, a3, a4, a5, a6, a7, a8, a9, a10, a11, a12, a13, a14, a15, a16, a17, a18, a19, a20, a21, a22, a23, a24, a25, v, a27])) ∧
    (∀ (c : Nat) (a0 a1 a2 a3 a4 a5 a6 a7 a8 a9 a10 a11 a12 a13 a14 a15 a16 a17 a18 a19 a20 a21 a22 a23 a24 a25 a26 a27 v : Value) (K : mr_c → Prop), mr_pf (mr_O c [a0, a1, a2, a3, a4, a5, a6, a7, a8, a9, a10, a11, a12, a13, a14, a15, a16, a17, a18, a19, a20, a21, a22, a23, a24, a25, a26, a27]) c 27 v K = K (mr_O c [a0, a1, a2, a3, a4, a5, a6, a7, a8, a9, a10, a11, a12, a13, a14, a15, a16, a17, a18, a19, a20, a21, a22, a23, a24, a25, a26, v])) :=
  ⟨fun c a0 v K => mr_pf_O (Nat.le_of_ble_eq_true rfl),
   fun c a0 a1 v K => mr_pf_O (Nat.le_of_ble_eq_true rfl),
   fun c a0 a1 v K => mr_pf_O (Nat.le_of_ble_eq_true rfl),
   fun c a0 a1 a2 v K => mr_pf_O (Nat.le_of_ble_eq_true rfl),
   fun c a0 a1 a2 v K => mr_pf_O (Nat.le_of_ble_eq_true rfl),
   fun c a0 a1 a2 v K => mr_pf_O (Nat.le_of_ble_eq_true rfl),
   fun c a0 a1 a2 a3 a4 a5 v K => mr_pf_O (Nat.le_of_ble_eq_true rfl),
   fun c a0 a1 a2 a3 a4 a5 v K => mr_pf_O (Nat.le_of_ble_eq_true rfl),
   fun c a0 a1 a2 a3 a4 a5 v K => mr_pf_O (Nat.le_of_ble_eq_true rfl),
   fun c a0 a1 a2 a3 a4 a5 v K => mr_pf_O (Nat.le_of_ble_eq_true rfl),
   fun c a0 a1 a2 a3 a4 a5 v K => mr_pf_O (Nat.le_of_ble_eq_true rfl),
   fun c a0 a1 a2 a3 a4 a5 v K => mr_pf_O (Nat.le_of_ble_eq_true rfl),
   fun c a0 a1 a2 a3 a4 a5 a6 v K => mr_pf_O (Nat.le_of_ble_eq_true rfl),
   fun c a0 a1 a2 a3 a4 a5 a6 v K => mr_pf_O (Nat.le_of_ble_eq_true rfl),
   fun c a0 a1 a2 a3 a4 a5 a6 v K => mr_pf_O (Nat.le_of_ble_eq_true rfl),
   fun c a0 a1 a2 a3 a4 a5 a6 v K => mr_pf_O (Nat.le_of_ble_eq_true rfl),
   fun c a0 a1 a2 a3 a4 a5 a6 v K => mr_pf_O (Nat.le_of_ble_eq_true rfl),
   fun c a0 a1 a2 a3 a4 a5 a6 v K => mr_pf_O (Nat.le_of_ble_eq_true rfl),
   fun c a0 a1 a2 a3 a4 a5 a6 v K => mr_pf_O (Nat.le_of_ble_eq_true rfl),
   fun c a0 a1 a2 a3 a4 a5 a6 a7 a8 a9 v K => mr_pf_O (Nat.le_of_ble_eq_true rfl),
   fun c a0 a1 a2 a3 a4 a5 a6 a7 a8 a9 v K => mr_pf_O (Nat.le_of_ble_eq_true rfl),
   fun c a0 a1 a2 a3 a4 a5 a6 a7 a8 a9 v K => mr_pf_O (Nat.le_of_ble_eq_true rfl),
   fun c a0 a1 a2 a3 a4 a5 a6 a7 a8 a9 v K => mr_pf_O (Nat.le_of_ble_eq_true rfl),
   fun c a0 a1 a2 a3 a4 a5 a6 a7 a8 a9 v K => mr_pf_O (Nat.le_of_ble_eq_true rfl),
   fun c a0 a1 a2 a3 a4 a5 a6 a7 a8 a9 v K => mr_pf_O (Nat.le_of_ble_eq_true rfl),
   fun c a0 a1 a2 a3 a4 a5 a6 a7 a8 a9 v K => mr_pf_O (Nat.le_of_ble_eq_true rfl),
   fun c a0 a1 a2 a3 a4 a5 a6 a7 a8 a9 v K => mr_pf_O (Nat.le_of_ble_eq_true rfl),
   fun c a0 a1 a2 a3 a4 a5 a6 a7 a8 a9 v K => mr_pf_O (Nat.le_of_ble_eq_true rfl),
   fun c a0 a1 a2 a3 a4 a5 a6 a7 a8 a9 v K => mr_pf_O (Nat.le_of_ble_eq_true rfl),
   fun c a0 a1 a2 a3 a4 a5 a6 a7 a8 a9 a10 v K => mr_pf_O (Nat.le_of_ble_eq_true rfl),
   fun c a0 a1 a2 a3 a4 a5 a6 a7 a8 a9 a10 v K => mr_pf_O (Nat.le_of_ble_eq_true rfl),
   fun c a0 a1 a2 a3 a4 a5 a6 a7 a8 a9 a10 v K => mr_pf_O (Nat.le_of_ble_eq_true rfl),
   fun c a0 a1 a2 a3 a4 a5 a6 a7 a8 a9 a10 v K => mr_pf_O (Nat.le_of_ble_eq_true rfl),
   fun c a0 a1 a2 a3 a4 a5 a6 a7 a8 a9 a10 v K => mr_pf_O (Nat.le_of_ble_eq_true rfl),
   fun c a0 a1 a2 a3 a4 a5 a6 a7 a8 a9 a10 v K => mr_pf_O (Nat.le_of_ble_eq_true rfl),
   fun c a0 a1 a2 a3 a4 a5 a6 a7 a8 a9 a10 v K => mr_pf_O (Nat.le_of_ble_eq_true rfl),
   fun c a0 a1 a2 a3 a4 a5 a6 a7 a8 a9 a10 v K => mr_pf_O (Nat.le_of_ble_eq_true rfl),
   fun c a0 a1 a2 a3 a4 a5 a6 a7 a8 a9 a10 v K => mr_pf_O (Nat.le_of_ble_eq_true rfl),
   fun c a0 a1 a2 a3 a4 a5 a6 a7 a8 a9 a10 v K => mr_pf_O (Nat.le_of_ble_eq_true rfl),
   fun c a0 a1 a2 a3 a4 a5 a6 a7 a8 a9 a10 v K => mr_pf_O (Nat.le_of_ble_eq_true rfl),
   fun c a0 a1 a2 a3 a4 a5 a6 a7 a8 a9 a10 a11 a12 a13 a14 a15 a16 a17 a18 a19 a20 a21 a22 a23 a24 a25 a26 a27 v K => mr_pf_O (Nat.le_of_ble_eq_true rfl),
   fun c a0 a1 a2 a3 a4 a5 a6 a7 a8 a9 a10 a11 a12 a13 a14 a15 a16 a17 a18 a19 a20 a21 a22 a23 a24 a25 a26 a27 v K => mr_pf_O (Nat.le_of_ble_eq_true rfl),
   fun c a0 a1 a2 a3 a4 a5 a6 a7 a8 a9 a10 a11 a12 a13 a14 a15 a16 a17 a18 a19 a20 a21 a22 a23 a24 a25 a26 a27 v K => mr_pf_O (Nat.le_of_ble_eq_true rfl),
   fun c a0 a1 a2 a3 a4 a5 a6 a7 a8 a9 a10 a11 a12 a13 a14 a15 a16 a17 a18 a19 a20 a21 a22 a23 a24 a25 a26 a27 v K => mr_pf_O (Nat.le_of_ble_eq_true rfl),
   fun c a0 a1 a2 a3 a4 a5 a6 a7 a8 a9 a10 a11 a12 a13 a14 a15 a16 a17 a18 a19 a20 a21 a22 a23 a24 a25 a26 a27 v K => mr_pf_O (Nat.le_of_ble_eq_true rfl),
   fun c a0 a1 a2 a3 a4 a5 a6 a7 a8 a9 a10 a11 a12 a13 a14 a15 a16 a17 a18 a19 a20 a21 a22 a23 a24 a25 a26 a27 v K => mr_pf_O (Nat.le_of_ble_eq_true rfl),
   fun c a0 a1 a2 a3 a4 a5 a6 a7 a8 a9 a10 a11 a12 a13 a14 a15 a16 a17 a18 a19 a20 a21 a22 a23 a24 a25 a26 a27 v K => mr_pf_O (Nat.le_of_ble_eq_true rfl),
   fun c a0 a1 a2 a3 a4 a5 a6 a7 a8 a9 a10 a11 a12 a13 a14 a15 a16 a17 a18 a19 a20 a21 a22 a23 a24 a25 a26 a27 v K => mr_pf_O (Nat.le_of_ble_eq_true rfl),
   fun c a0 a1 a2 a3 a4 a5 a6 a7 a8 a9 a10 a11 a12 a13 a14 a15 a16 a17 a18 a19 a20 a21 a22 a23 a24 a25 a26 a27 v K => mr_pf_O (Nat.le_of_ble_eq_true rfl),
   fun c a0 a1 a2 a3 a4 a5 a6 a7 a8 a9 a10 a11 a12 a13 a14 a15 a16 a17 a18 a19 a20 a21 a22 a23 a24 a25 a26 a27 v K => mr_pf_O (Nat.le_of_ble_eq_true rfl),
   fun c a0 a1 a2 a3 a4 a5 a6 a7 a8 a9 a10 a11 a12 a13 a14 a15 a16 a17 a18 a19 a20 a21 a22 a23 a24 a25 a26 a27 v K => mr_pf_O (Nat.le_of_ble_eq_true rfl),
   fun c a0 a1 a2 a3 a4 a5 a6 a7 a8 a9 a10 a11 a12 a13 a14 a15 a16 a17 a18 a19 a20 a21 a22 a23 a24 a25 a26 a27 v K => mr_pf_O (Nat.le_of_ble_eq_true rfl),
   fun c a0 a1 a2 a3 a4 a5 a6 a7 a8 a9 a10 a11 a12 a13 a14 a15 a16 a17 a18 a19 a20 a21 a22 a23 a24 a25 a26 a27 v K => mr_pf_O (Nat.le_of_ble_eq_true rfl),
   fun c a0 a1 a2 a3 a4 a5 a6 a7 a8 a9 a10 a11 a12 a13 a14 a15 a16 a17 a18 a19 a20 a21 a22 a23 a24 a25 a26 a27 v K => mr_pf_O (Nat.le_of_ble_eq_true rfl),
   fun c a0 a1 a2 a3 a4 a5 a6 a7 a8 a9 a10 a11 a12 a13 a14 a15 a16 a17 a18 a19 a20 a21 a22 a23 a24 a25 a26 a27 v K => mr_pf_O (Nat.le_of_ble_eq_true rfl),
   fun c a0 a1 a2 a3 a4 a5 a6 a7 a8 a9 a10 a11 a12 a13 a14 a15 a16 a17 a18 a19 a20 a21 a22 a23 a24 a25 a26 a27 v K => mr_pf_O (Nat.le_of_ble_eq_true rfl),
   fun c a0 a1 a2 a3 a4 a5 a6 a7 a8 a9 a10 a11 a12 a13 a14 a15 a16 a17 a18 a19 a20 a21 a22 a23 a24 a25 a26 a27 v K => mr_pf_O (Nat.le_of_ble_eq_true rfl),
   fun c a0 a1 a2 a3 a4 a5 a6 a7 a8 a9 a10 a11 a12 a13 a14 a15 a16 a17 a18 a19 a20 a21 a22 a23 a24 a25 a26 a27 v K => mr_pf_O (Nat.le_of_ble_eq_true rfl),
   fun c a0 a1 a2 a3 a4 a5 a6 a7 a8 a9 a10 a11 a12 a13 a14 a15 a16 a17 a18 a19 a20 a21 a22 a23 a24 a25 a26 a27 v K => mr_pf_O (Nat.le_of_ble_eq_true rfl),
   fun c a0 a1 a2 a3 a4 a5 a6 a7 a8 a9 a10 a11 a12 a13 a14 a15 a16 a17 a18 a19 a20 a21 a22 a23 a24 a25 a26 a27 v K => mr_pf_O (Nat.le_of_ble_eq_true rfl),
   fun c a0 a1 a2 a3 a4 a5 a6 a7 a8 a9 a10 a11 a12 a13 a14 a15 a16 a17 a18 a19 a20 a21 a22 a23 a24 a25 a26 a27 v K => mr_pf_O (Nat.le_of_ble_eq_true rfl),
   fun c a0 a1 a2 a3 a4 a5 a6 a7 a8 a9 a10 a11 a12 a13 a14 a15 a16 a17 a18 a19 a20 a21 a22 a23 a24 a25 a26 a27 v K => mr_pf_O (Nat.le_of_ble_eq_true rfl),
   fun c a0 a1 a2 a3 a4 a5 a6 a7 a8 a9 a10 a11 a12 a13 a14 a15 a16 a17 a18 a19 a20 a21 a22 a23 a24 a25 a26 a27 v K => mr_pf_O (Nat.le_of_ble_eq_true rfl),
   fun c a0 a1 a2 a3 a4 a5 a6 a7 a8 a9 a10 a11 a12 a13 a14 a15 a16 a17 a18 a19 a20 a21 a22 a23 a24 a25 a26 a27 v K => mr_pf_O (Nat.le_of_ble_eq_true rfl),
   fun c a0 a1 a2 a3 a4 a5 a6 a7 a8 a9 a10 a11 a12 a13 a14 a15 a16 a17 a18 a19 a20 a21 a22 a23 a24 a25 a26 a27 v K => mr_pf_O (Nat.le_of_ble_eq_true rfl),
   fun c a0 a1 a2 a3 a4 a5 a6 a7 a8 a9 a10 a11 a12 a13 a14 a15 a16 a17 a18 a19 a20 a21 a22 a23 a24 a25 a26 a27 v K => mr_pf_O (Nat.le_of_ble_eq_true rfl),
   fun c a0 a1 a2 a3 a4 a5 a6 a7 a8 a9 a10 a11 a12 a13 a14 a15 a16 a17 a18 a19 a20 a21 a22 a23 a24 a25 a26 a27 v K => mr_pf_O (Nat.le_of_ble_eq_true rfl),
   fun c a0 a1 a2 a3 a4 a5 a6 a7 a8 a9 a10 a11 a12 a13 a14 a15 a16 a17 a18 a19 a20 a21 a22 a23 a24 a25 a26 a27 v K => mr_pf_O (Nat.le_of_ble_eq_true rfl)⟩
theorem df_0 : mr_dfs 0 = [.null, .null] := rfl
theorem df_1 : mr_dfs 1 = [.long 0, .long 0, .null, .null, .null, .int 0] := rfl
theorem df_2 : mr_dfs 2 = [.null] := rfl
theorem df_3 : mr_dfs 3 = [.int 0, .null, .null] := rfl
theorem df_4 : mr_dfs 4 = [.int 0, .null] := rfl
theorem df_5 : mr_dfs 5 = [.null] := rfl
theorem df_6 : mr_dfs 6 = [.null, .null, .null, .null, .null, .null, .null, .null, .int 0, .int 0] := rfl
theorem df_7 : mr_dfs 7 = [.int 0, .null, .int 0, .int 0, .int 0, .int 0, .int 0] := rfl
theorem df_8 : mr_dfs 8 = [.int 0, .null, .null, .null, .null, .int 0] := rfl
theorem df_9 : mr_dfs 9 = [.null] := rfl
theorem df_10 : mr_dfs 10 = [.null, .null, .null, .null, .null, .null, .null, .null, .null, .null, .null] := rfl
theorem df_11 : mr_dfs 11 = [.int 0, .null, .int 0, .int 0, .int 0, .int 0, .int 0, .int 0, .int 0, .int 0, .null, .int 0, .null, .null, .null, .null, .null, .int 0, .null, .null, .null, .int 0, .null, .null, .null, .null, .null, .int 0] := rfl
theorem ad_at (h : mr_h) (n b : Nat) (c : mr_c) : (mr_add h n c).1 b = if b = h.2.1 then c else h.1 b := rfl
theorem ad_n (h : mr_h) (n : Nat) (c : mr_c) : (mr_add h n c).2.1 = h.2.1 + 1 := rfl
theorem ad_s (h : mr_h) (n : Nat) (c : mr_c) : (mr_add h n c).2.2.1 = h.2.2.1 + n := rfl
theorem ad_r (h : mr_h) (n : Nat) (c : mr_c) : (mr_add h n c).2.2.2 = h.2.2.2 := rfl
