/-! step equations, printed by wip/whole/gen12run.py; S_x: all of a method but the heads of its loops; s_x_pc: a head -/
theorem s_law_law_18 (v0 v1 v2 : Value) (x : Int32) (st : List Value) (h : mr_h) (Q : Option Value → mr_h → Prop) : mr_wp 181 18 [v0, v1, v2, .int x] st h Q = mr_wp 181 19 [v0, v1, v2, .int x] (.int x :: st) h Q := gx_one (i := .iload_n 3) (len := 1) (by decide +kernel) rfl
-- switch law_law 32
set_option maxRecDepth 10000 in
theorem s_law_law_32 (v0 v1 v2 v3 : Value) (x : Int32) (st : List Value) (h : mr_h) (Q : Option Value → mr_h → Prop) : mr_wp 181 32 [v0, v1, v2, v3] (.int x :: st) h Q = if x = 0 then mr_wp 181 148 [v0, v1, v2, v3] st h Q else if x = 1 then mr_wp 181 171 [v0, v1, v2, v3] st h Q else if x = 2 then mr_wp 181 184 [v0, v1, v2, v3] st h Q else if x = 3 then mr_wp 181 197 [v0, v1, v2, v3] st h Q else if x = 4 then mr_wp 181 230 [v0, v1, v2, v3] st h Q else if x = 5 then mr_wp 181 263 [v0, v1, v2, v3] st h Q else if x = 6 then mr_wp 181 286 [v0, v1, v2, v3] st h Q else if x = 7 then mr_wp 181 319 [v0, v1, v2, v3] st h Q else if x = 8 then mr_wp 181 352 [v0, v1, v2, v3] st h Q else if x = 9 then mr_wp 181 365 [v0, v1, v2, v3] st h Q else if x = 10 then mr_wp 181 378 [v0, v1, v2, v3] st h Q else if x = 11 then mr_wp 181 411 [v0, v1, v2, v3] st h Q else if x = 12 then mr_wp 181 444 [v0, v1, v2, v3] st h Q else if x = 13 then mr_wp 181 487 [v0, v1, v2, v3] st h Q else if x = 14 then mr_wp 181 530 [v0, v1, v2, v3] st h Q else if x = 15 then mr_wp 181 573 [v0, v1, v2, v3] st h Q else if x = 16 then mr_wp 181 606 [v0, v1, v2, v3] st h Q else if x = 17 then mr_wp 181 629 [v0, v1, v2, v3] st h Q else if x = 18 then mr_wp 181 682 [v0, v1, v2, v3] st h Q else if x = 19 then mr_wp 181 725 [v0, v1, v2, v3] st h Q else if x = 20 then mr_wp 181 738 [v0, v1, v2, v3] st h Q else if x = 21 then mr_wp 181 761 [v0, v1, v2, v3] st h Q else if x = 22 then mr_wp 181 774 [v0, v1, v2, v3] st h Q else if x = 23 then mr_wp 181 797 [v0, v1, v2, v3] st h Q else if x = 24 then mr_wp 181 820 [v0, v1, v2, v3] st h Q else mr_wp 181 843 [v0, v1, v2, v3] st h Q := by
  by_cases e0 : x = 0
  · subst e0
    rw [if_pos rfl]
    exact gx_one (i := .tableswitch 811 0 24 #[116, 139, 152, 165, 198, 231, 254, 287, 320, 333, 346, 379, 412, 455, 498, 541, 574, 597, 650, 693, 706, 729, 742, 765, 788]) (len := 116) (by decide +kernel) rfl
  rw [if_neg e0]
  by_cases e1 : x = 1
  · subst e1
    rw [if_pos rfl]
    exact gx_one (i := .tableswitch 811 0 24 #[116, 139, 152, 165, 198, 231, 254, 287, 320, 333, 346, 379, 412, 455, 498, 541, 574, 597, 650, 693, 706, 729, 742, 765, 788]) (len := 116) (by decide +kernel) rfl
  rw [if_neg e1]
  by_cases e2 : x = 2
  · subst e2
    rw [if_pos rfl]
    exact gx_one (i := .tableswitch 811 0 24 #[116, 139, 152, 165, 198, 231, 254, 287, 320, 333, 346, 379, 412, 455, 498, 541, 574, 597, 650, 693, 706, 729, 742, 765, 788]) (len := 116) (by decide +kernel) rfl
  rw [if_neg e2]
  by_cases e3 : x = 3
  · subst e3
    rw [if_pos rfl]
    exact gx_one (i := .tableswitch 811 0 24 #[116, 139, 152, 165, 198, 231, 254, 287, 320, 333, 346, 379, 412, 455, 498, 541, 574, 597, 650, 693, 706, 729, 742, 765, 788]) (len := 116) (by decide +kernel) rfl
  rw [if_neg e3]
  by_cases e4 : x = 4
  · subst e4
    rw [if_pos rfl]
    exact gx_one (i := .tableswitch 811 0 24 #[116, 139, 152, 165, 198, 231, 254, 287, 320, 333, 346, 379, 412, 455, 498, 541, 574, 597, 650, 693, 706, 729, 742, 765, 788]) (len := 116) (by decide +kernel) rfl
  rw [if_neg e4]
  by_cases e5 : x = 5
  · subst e5
    rw [if_pos rfl]
    exact gx_one (i := .tableswitch 811 0 24 #[116, 139, 152, 165, 198, 231, 254, 287, 320, 333, 346, 379, 412, 455, 498, 541, 574, 597, 650, 693, 706, 729, 742, 765, 788]) (len := 116) (by decide +kernel) rfl
  rw [if_neg e5]
  by_cases e6 : x = 6
  · subst e6
    rw [if_pos rfl]
    exact gx_one (i := .tableswitch 811 0 24 #[116, 139, 152, 165, 198, 231, 254, 287, 320, 333, 346, 379, 412, 455, 498, 541, 574, 597, 650, 693, 706, 729, 742, 765, 788]) (len := 116) (by decide +kernel) rfl
  rw [if_neg e6]
  by_cases e7 : x = 7
  · subst e7
    rw [if_pos rfl]
    exact gx_one (i := .tableswitch 811 0 24 #[116, 139, 152, 165, 198, 231, 254, 287, 320, 333, 346, 379, 412, 455, 498, 541, 574, 597, 650, 693, 706, 729, 742, 765, 788]) (len := 116) (by decide +kernel) rfl
  rw [if_neg e7]
  by_cases e8 : x = 8
  · subst e8
    rw [if_pos rfl]
    exact gx_one (i := .tableswitch 811 0 24 #[116, 139, 152, 165, 198, 231, 254, 287, 320, 333, 346, 379, 412, 455, 498, 541, 574, 597, 650, 693, 706, 729, 742, 765, 788]) (len := 116) (by decide +kernel) rfl
  rw [if_neg e8]
  by_cases e9 : x = 9
  · subst e9
    rw [if_pos rfl]
    exact gx_one (i := .tableswitch 811 0 24 #[116, 139, 152, 165, 198, 231, 254, 287, 320, 333, 346, 379, 412, 455, 498, 541, 574, 597, 650, 693, 706, 729, 742, 765, 788]) (len := 116) (by decide +kernel) rfl
  rw [if_neg e9]
  by_cases e10 : x = 10
  · subst e10
    rw [if_pos rfl]
    exact gx_one (i := .tableswitch 811 0 24 #[116, 139, 152, 165, 198, 231, 254, 287, 320, 333, 346, 379, 412, 455, 498, 541, 574, 597, 650, 693, 706, 729, 742, 765, 788]) (len := 116) (by decide +kernel) rfl
  rw [if_neg e10]
  by_cases e11 : x = 11
  · subst e11
    rw [if_pos rfl]
    exact gx_one (i := .tableswitch 811 0 24 #[116, 139, 152, 165, 198, 231, 254, 287, 320, 333, 346, 379, 412, 455, 498, 541, 574, 597, 650, 693, 706, 729, 742, 765, 788]) (len := 116) (by decide +kernel) rfl
  rw [if_neg e11]
  by_cases e12 : x = 12
  · subst e12
    rw [if_pos rfl]
    exact gx_one (i := .tableswitch 811 0 24 #[116, 139, 152, 165, 198, 231, 254, 287, 320, 333, 346, 379, 412, 455, 498, 541, 574, 597, 650, 693, 706, 729, 742, 765, 788]) (len := 116) (by decide +kernel) rfl
  rw [if_neg e12]
  by_cases e13 : x = 13
  · subst e13
    rw [if_pos rfl]
    exact gx_one (i := .tableswitch 811 0 24 #[116, 139, 152, 165, 198, 231, 254, 287, 320, 333, 346, 379, 412, 455, 498, 541, 574, 597, 650, 693, 706, 729, 742, 765, 788]) (len := 116) (by decide +kernel) rfl
  rw [if_neg e13]
  by_cases e14 : x = 14
  · subst e14
    rw [if_pos rfl]
    exact gx_one (i := .tableswitch 811 0 24 #[116, 139, 152, 165, 198, 231, 254, 287, 320, 333, 346, 379, 412, 455, 498, 541, 574, 597, 650, 693, 706, 729, 742, 765, 788]) (len := 116) (by decide +kernel) rfl
  rw [if_neg e14]
  by_cases e15 : x = 15
  · subst e15
    rw [if_pos rfl]
    exact gx_one (i := .tableswitch 811 0 24 #[116, 139, 152, 165, 198, 231, 254, 287, 320, 333, 346, 379, 412, 455, 498, 541, 574, 597, 650, 693, 706, 729, 742, 765, 788]) (len := 116) (by decide +kernel) rfl
  rw [if_neg e15]
  by_cases e16 : x = 16
  · subst e16
    rw [if_pos rfl]
    exact gx_one (i := .tableswitch 811 0 24 #[116, 139, 152, 165, 198, 231, 254, 287, 320, 333, 346, 379, 412, 455, 498, 541, 574, 597, 650, 693, 706, 729, 742, 765, 788]) (len := 116) (by decide +kernel) rfl
  rw [if_neg e16]
  by_cases e17 : x = 17
  · subst e17
    rw [if_pos rfl]
    exact gx_one (i := .tableswitch 811 0 24 #[116, 139, 152, 165, 198, 231, 254, 287, 320, 333, 346, 379, 412, 455, 498, 541, 574, 597, 650, 693, 706, 729, 742, 765, 788]) (len := 116) (by decide +kernel) rfl
  rw [if_neg e17]
  by_cases e18 : x = 18
  · subst e18
    rw [if_pos rfl]
    exact gx_one (i := .tableswitch 811 0 24 #[116, 139, 152, 165, 198, 231, 254, 287, 320, 333, 346, 379, 412, 455, 498, 541, 574, 597, 650, 693, 706, 729, 742, 765, 788]) (len := 116) (by decide +kernel) rfl
  rw [if_neg e18]
  by_cases e19 : x = 19
  · subst e19
    rw [if_pos rfl]
    exact gx_one (i := .tableswitch 811 0 24 #[116, 139, 152, 165, 198, 231, 254, 287, 320, 333, 346, 379, 412, 455, 498, 541, 574, 597, 650, 693, 706, 729, 742, 765, 788]) (len := 116) (by decide +kernel) rfl
  rw [if_neg e19]
  by_cases e20 : x = 20
  · subst e20
    rw [if_pos rfl]
    exact gx_one (i := .tableswitch 811 0 24 #[116, 139, 152, 165, 198, 231, 254, 287, 320, 333, 346, 379, 412, 455, 498, 541, 574, 597, 650, 693, 706, 729, 742, 765, 788]) (len := 116) (by decide +kernel) rfl
  rw [if_neg e20]
  by_cases e21 : x = 21
  · subst e21
    rw [if_pos rfl]
    exact gx_one (i := .tableswitch 811 0 24 #[116, 139, 152, 165, 198, 231, 254, 287, 320, 333, 346, 379, 412, 455, 498, 541, 574, 597, 650, 693, 706, 729, 742, 765, 788]) (len := 116) (by decide +kernel) rfl
  rw [if_neg e21]
  by_cases e22 : x = 22
  · subst e22
    rw [if_pos rfl]
    exact gx_one (i := .tableswitch 811 0 24 #[116, 139, 152, 165, 198, 231, 254, 287, 320, 333, 346, 379, 412, 455, 498, 541, 574, 597, 650, 693, 706, 729, 742, 765, 788]) (len := 116) (by decide +kernel) rfl
  rw [if_neg e22]
  by_cases e23 : x = 23
  · subst e23
    rw [if_pos rfl]
    exact gx_one (i := .tableswitch 811 0 24 #[116, 139, 152, 165, 198, 231, 254, 287, 320, 333, 346, 379, 412, 455, 498, 541, 574, 597, 650, 693, 706, 729, 742, 765, 788]) (len := 116) (by decide +kernel) rfl
  rw [if_neg e23]
  by_cases e24 : x = 24
  · subst e24
    rw [if_pos rfl]
    exact gx_one (i := .tableswitch 811 0 24 #[116, 139, 152, 165, 198, 231, 254, 287, 320, 333, 346, 379, 412, 455, 498, 541, 574, 597, 650, 693, 706, 729, 742, 765, 788]) (len := 116) (by decide +kernel) rfl
  rw [if_neg e24]
  have hx : x.toInt < 0 ∨ 24 < x.toInt := mr_swd (fun j h1 h2 => by
    have hj : j = 0 ∨ j = 1 ∨ j = 2 ∨ j = 3 ∨ j = 4 ∨ j = 5 ∨ j = 6 ∨ j = 7 ∨ j = 8 ∨ j = 9 ∨ j = 10 ∨ j = 11 ∨ j = 12 ∨ j = 13 ∨ j = 14 ∨ j = 15 ∨ j = 16 ∨ j = 17 ∨ j = 18 ∨ j = 19 ∨ j = 20 ∨ j = 21 ∨ j = 22 ∨ j = 23 ∨ j = 24 := by omega
    rcases hj with rfl | rfl | rfl | rfl | rfl | rfl | rfl | rfl | rfl | rfl | rfl | rfl | rfl | rfl | rfl | rfl | rfl | rfl | rfl | rfl | rfl | rfl | rfl | rfl | rfl
    · exact e0
    · exact e1
    · exact e2
    · exact e3
    · exact e4
    · exact e5
    · exact e6
    · exact e7
    · exact e8
    · exact e9
    · exact e10
    · exact e11
    · exact e12
    · exact e13
    · exact e14
    · exact e15
    · exact e16
    · exact e17
    · exact e18
    · exact e19
    · exact e20
    · exact e21
    · exact e22
    · exact e23
    · exact e24)
  exact gx_one (i := .tableswitch 811 0 24 #[116, 139, 152, 165, 198, 231, 254, 287, 320, 333, 346, 379, 412, 455, 498, 541, 574, 597, 650, 693, 706, 729, 742, 765, 788]) (len := 116) (by decide +kernel) (by simp only [mr_one]; rw [if_pos hx]; rfl)

theorem S_law_law_0 : (∀ (v0 v1 v2 v3 : Value) (st : List Value) (h : mr_h) (Q : Option Value → mr_h → Prop), mr_wp 181 0 [v0, v1, v2, v3] st h Q = mr_wp 181 3 [v0, v1, v2, v3] (.ref h.2.1 :: st) (mr_add h 11 (mr_O 10 (mr_dfs 10))) Q) ∧
    (∀ (v0 v1 v2 v3 : Value) (x : Nat) (st : List Value) (h : mr_h) (Q : Option Value → mr_h → Prop), mr_wp 181 3 [v0, v1, v2, v3] (.ref x :: st) h Q = mr_wp 181 4 [v0, v1, v2, v3] (.ref x :: .ref x :: st) h Q) ∧
    (∀ (v0 v1 v2 v3 : Value) (o : Nat) (r0 : Value) (h : mr_h) (Q : Option Value → mr_h → Prop), mr_wp 181 4 [v0, v1, v2, v3] [.ref o, r0] h Q = mr_run 0 [.ref o] h (fun v h' => mr_wp 181 7 [v0, v1, v2, v3] (v.toList ++ [r0]) h' Q)) ∧
    (∀ (v1 v2 v3 : Value) (x : Nat) (st : List Value) (h : mr_h) (Q : Option Value → mr_h → Prop), mr_wp 181 7 [.retAddr 0, v1, v2, v3] (.ref x :: st) h Q = mr_wp 181 8 [.retAddr 0, .ref x, v2, v3] st h Q) ∧
    (∀ (v0 v1 v2 v3 : Value) (st : List Value) (h : mr_h) (Q : Option Value → mr_h → Prop), mr_wp 181 8 [v0, v1, v2, v3] st h Q = mr_wp 181 11 [v0, v1, v2, v3] (.ref h.2.1 :: st) (mr_add h 28 (mr_O 11 (mr_dfs 11))) Q) ∧
    (∀ (v0 v1 v2 v3 : Value) (x : Nat) (st : List Value) (h : mr_h) (Q : Option Value → mr_h → Prop), mr_wp 181 11 [v0, v1, v2, v3] (.ref x :: st) h Q = mr_wp 181 12 [v0, v1, v2, v3] (.ref x :: .ref x :: st) h Q) ∧
    (∀ (v0 v1 v2 v3 : Value) (o : Nat) (r0 : Value) (h : mr_h) (Q : Option Value → mr_h → Prop), mr_wp 181 12 [v0, v1, v2, v3] [.ref o, r0] h Q = mr_run 116 [.ref o] h (fun v h' => mr_wp 181 15 [v0, v1, v2, v3] (v.toList ++ [r0]) h' Q)) ∧
    (∀ (v0 v2 v3 : Value) (w1 : Nat) (x : Nat) (st : List Value) (h : mr_h) (Q : Option Value → mr_h → Prop), mr_wp 181 15 [v0, .ref w1, v2, v3] (.ref x :: st) h Q = mr_wp 181 16 [v0, .ref w1, .ref x, v3] st h Q) ∧
    (∀ (v0 v1 v2 v3 : Value) (st : List Value) (h : mr_h) (Q : Option Value → mr_h → Prop), mr_wp 181 16 [v0, v1, v2, v3] st h Q = mr_wp 181 17 [v0, v1, v2, v3] (.int (0) :: st) h Q) ∧
    (∀ (v0 v1 v3 : Value) (w2 : Nat) (x : Int32) (st : List Value) (h : mr_h) (Q : Option Value → mr_h → Prop), mr_wp 181 17 [v0, v1, .ref w2, v3] (.int x :: st) h Q = mr_wp 181 18 [v0, v1, .ref w2, .int x] st h Q) ∧
    (∀ (v1 v2 v3 : Value) (st : List Value) (h : mr_h) (Q : Option Value → mr_h → Prop), mr_wp 181 19 [.retAddr 0, v1, v2, v3] st h Q = mr_wp 181 20 [.retAddr 0, v1, v2, v3] (.retAddr 0 :: st) h Q) ∧
    (∀ (v0 v1 v2 v3 : Value) (st : List Value) (h : mr_h) (Q : Option Value → mr_h → Prop), mr_wp 181 20 [v0, v1, v2, v3] (.retAddr 0 :: st) h Q = mr_wp 181 21 [v0, v1, v2, v3] (.int (Int32.ofNat h.2.2.2.1) :: st) h Q) ∧
    (∀ (v0 v1 v2 v3 : Value) (st : List Value) (h : mr_h) (Q : Option Value → mr_h → Prop), mr_wp 181 21 [v0, v1, v2, v3] st h Q = mr_wp 181 22 [v0, v1, v2, v3] (.int (5) :: st) h Q) ∧
    (∀ (v0 v1 v2 v3 : Value) (x : Int32) (y : Int32) (st : List Value) (h : mr_h) (Q : Option Value → mr_h → Prop), mr_wp 181 22 [v0, v1, v2, v3] (.int y :: .int x :: st) h Q = mr_wp 181 23 [v0, v1, v2, v3] (.int (x - y) :: st) h Q) ∧
    (∀ (v0 v1 v2 v3 : Value) (x : Int32) (y : Int32) (st : List Value) (h : mr_h) (Q : Option Value → mr_h → Prop), mr_wp 181 23 [v0, v1, v2, v3] (.int y :: .int x :: st) h Q = if y < x then mr_wp 181 849 [v0, v1, v2, v3] st h Q else mr_wp 181 26 [v0, v1, v2, v3] st h Q) ∧
    (∀ (v1 v2 v3 : Value) (st : List Value) (h : mr_h) (Q : Option Value → mr_h → Prop), mr_wp 181 26 [.retAddr 0, v1, v2, v3] st h Q = mr_wp 181 27 [.retAddr 0, v1, v2, v3] (.retAddr 0 :: st) h Q) ∧
    (∀ (v0 v1 v2 : Value) (x : Int32) (st : List Value) (h : mr_h) (Q : Option Value → mr_h → Prop), mr_wp 181 27 [v0, v1, v2, .int x] st h Q = mr_wp 181 28 [v0, v1, v2, .int x] (.int x :: st) h Q) ∧
    (∀ (v0 v1 v2 v3 : Value) (x : Int32) (st : List Value) (h : mr_h) (Q : Option Value → mr_h → Prop), mr_wp 181 28 [v0, v1, v2, v3] (.int x :: .retAddr 0 :: st) h Q = if x < 0 ∨ h.2.2.2.1 ≤ x.toNatClampNeg then False else mr_wp 181 29 [v0, v1, v2, v3] (.int (h.2.2.2.2 x.toNatClampNeg) :: st) h Q) ∧
    (∀ (v0 v1 v2 v3 : Value) (st : List Value) (h : mr_h) (Q : Option Value → mr_h → Prop), mr_wp 181 29 [v0, v1, v2, v3] st h Q = mr_wp 181 31 [v0, v1, v2, v3] (.int (31) :: st) h Q) ∧
    (∀ (v0 v1 v2 v3 : Value) (x : Int32) (y : Int32) (st : List Value) (h : mr_h) (Q : Option Value → mr_h → Prop), mr_wp 181 31 [v0, v1, v2, v3] (.int y :: .int x :: st) h Q = mr_wp 181 32 [v0, v1, v2, v3] (.int (x &&& y) :: st) h Q) ∧
    (∀ (v0 v2 v3 : Value) (x : Nat) (st : List Value) (h : mr_h) (Q : Option Value → mr_h → Prop), mr_wp 181 148 [v0, .ref x, v2, v3] st h Q = mr_wp 181 149 [v0, .ref x, v2, v3] (.ref x :: st) h Q) ∧
    (∀ (v1 v2 v3 : Value) (st : List Value) (h : mr_h) (Q : Option Value → mr_h → Prop), mr_wp 181 149 [.retAddr 0, v1, v2, v3] st h Q = mr_wp 181 150 [.retAddr 0, v1, v2, v3] (.retAddr 0 :: st) h Q) ∧
    (∀ (v0 v1 v2 : Value) (x : Int32) (st : List Value) (h : mr_h) (Q : Option Value → mr_h → Prop), mr_wp 181 150 [v0, v1, v2, .int x] st h Q = mr_wp 181 151 [v0, v1, v2, .int x] (.int x :: st) h Q) ∧
    (∀ (v0 v1 v2 v3 : Value) (st : List Value) (h : mr_h) (Q : Option Value → mr_h → Prop), mr_wp 181 151 [v0, v1, v2, v3] st h Q = mr_wp 181 152 [v0, v1, v2, v3] (.int (1) :: st) h Q) ∧
    (∀ (v0 v1 v2 v3 : Value) (x : Int32) (y : Int32) (st : List Value) (h : mr_h) (Q : Option Value → mr_h → Prop), mr_wp 181 152 [v0, v1, v2, v3] (.int y :: .int x :: st) h Q = mr_wp 181 153 [v0, v1, v2, v3] (.int (x + y) :: st) h Q) ∧
    (∀ (v0 v1 v2 v3 : Value) (x : Int32) (st : List Value) (h : mr_h) (Q : Option Value → mr_h → Prop), mr_wp 181 153 [v0, v1, v2, v3] (.int x :: .retAddr 0 :: st) h Q = if x < 0 ∨ h.2.2.2.1 ≤ x.toNatClampNeg then False else mr_wp 181 154 [v0, v1, v2, v3] (.int (h.2.2.2.2 x.toNatClampNeg) :: st) h Q) ∧
    (∀ (v0 v1 v2 v3 : Value) (a0 : Int32) (o : Nat) (h : mr_h) (Q : Option Value → mr_h → Prop), mr_wp 181 154 [v0, v1, v2, v3] [.int a0, .ref o] h Q = mr_rc (h.1 o) 10 (mr_run 26 [.ref o, .int a0] h (fun v h' => mr_wp 181 157 [v0, v1, v2, v3] (v.toList ++ []) h' Q))) ∧
    (∀ (v0 v1 v3 : Value) (x : Nat) (st : List Value) (h : mr_h) (Q : Option Value → mr_h → Prop), mr_wp 181 157 [v0, v1, .ref x, v3] st h Q = mr_wp 181 158 [v0, v1, .ref x, v3] (.ref x :: st) h Q) ∧
    (∀ (v1 v2 v3 : Value) (st : List Value) (h : mr_h) (Q : Option Value → mr_h → Prop), mr_wp 181 158 [.retAddr 0, v1, v2, v3] st h Q = mr_wp 181 159 [.retAddr 0, v1, v2, v3] (.retAddr 0 :: st) h Q) ∧
    (∀ (v0 v1 v2 : Value) (x : Int32) (st : List Value) (h : mr_h) (Q : Option Value → mr_h → Prop), mr_wp 181 159 [v0, v1, v2, .int x] st h Q = mr_wp 181 160 [v0, v1, v2, .int x] (.int x :: st) h Q) ∧
    (∀ (v0 v1 v2 v3 : Value) (st : List Value) (h : mr_h) (Q : Option Value → mr_h → Prop), mr_wp 181 160 [v0, v1, v2, v3] st h Q = mr_wp 181 161 [v0, v1, v2, v3] (.int (1) :: st) h Q) ∧
    (∀ (v0 v1 v2 v3 : Value) (x : Int32) (y : Int32) (st : List Value) (h : mr_h) (Q : Option Value → mr_h → Prop), mr_wp 181 161 [v0, v1, v2, v3] (.int y :: .int x :: st) h Q = mr_wp 181 162 [v0, v1, v2, v3] (.int (x + y) :: st) h Q) ∧
    (∀ (v0 v1 v2 v3 : Value) (x : Int32) (st : List Value) (h : mr_h) (Q : Option Value → mr_h → Prop), mr_wp 181 162 [v0, v1, v2, v3] (.int x :: .retAddr 0 :: st) h Q = if x < 0 ∨ h.2.2.2.1 ≤ x.toNatClampNeg then False else mr_wp 181 163 [v0, v1, v2, v3] (.int (h.2.2.2.2 x.toNatClampNeg) :: st) h Q) ∧
    (∀ (v0 v1 v2 v3 : Value) (a0 : Int32) (o : Nat) (r0 : Value) (h : mr_h) (Q : Option Value → mr_h → Prop), mr_wp 181 163 [v0, v1, v2, v3] [.int a0, .ref o, r0] h Q = mr_rc (h.1 o) 11 (mr_run 120 [.ref o, .int a0] h (fun v h' => mr_wp 181 166 [v0, v1, v2, v3] (v.toList ++ [r0]) h' Q))) ∧
    (∀ (v0 v1 v2 v3 : Value) (x : Int32) (y : Int32) (st : List Value) (h : mr_h) (Q : Option Value → mr_h → Prop), mr_wp 181 166 [v0, v1, v2, v3] (.int y :: .int x :: st) h Q = if x = y then mr_wp 181 843 [v0, v1, v2, v3] st h Q else mr_wp 181 169 [v0, v1, v2, v3] st h Q) ∧
    (∀ (v0 v1 v2 v3 : Value) (st : List Value) (h : mr_h) (Q : Option Value → mr_h → Prop), mr_wp 181 169 [v0, v1, v2, v3] st h Q = mr_wp 181 170 [v0, v1, v2, v3] (.int (0) :: st) h Q) ∧
    (∀ (v0 v1 v2 v3 : Value) (x : Int32) (h : mr_h) (Q : Option Value → mr_h → Prop) (hv : x &&& 1 = x), mr_wp 181 170 [v0, v1, v2, v3] [.int x] h Q = Q (some (.int x)) h) ∧
    (∀ (v0 v2 v3 : Value) (x : Nat) (st : List Value) (h : mr_h) (Q : Option Value → mr_h → Prop), mr_wp 181 171 [v0, .ref x, v2, v3] st h Q = mr_wp 181 172 [v0, .ref x, v2, v3] (.ref x :: st) h Q) ∧
    (∀ (v0 v1 v2 v3 : Value) (o : Nat) (h : mr_h) (Q : Option Value → mr_h → Prop), mr_wp 181 172 [v0, v1, v2, v3] [.ref o] h Q = mr_rc (h.1 o) 10 (mr_run 28 [.ref o] h (fun v h' => mr_wp 181 175 [v0, v1, v2, v3] (v.toList ++ []) h' Q))) ∧
    (∀ (v0 v1 v3 : Value) (x : Nat) (st : List Value) (h : mr_h) (Q : Option Value → mr_h → Prop), mr_wp 181 175 [v0, v1, .ref x, v3] st h Q = mr_wp 181 176 [v0, v1, .ref x, v3] (.ref x :: st) h Q) :=
  ⟨fun v0 v1 v2 v3 st h Q => gx_new (x := 7) (by decide +kernel) (by decide +kernel),
   fun v0 v1 v2 v3 x st h Q => gx_one (i := .dup) (len := 1) (by decide +kernel) rfl,
   fun v0 v1 v2 v3 o r0 h Q => gx_ini (x := 9) (t := 0) (n := 0) (by decide +kernel) (by decide +kernel) (by decide) (by decide +kernel) rfl (Or.inl (Nat.le_of_ble_eq_true rfl)) (by show _ ≤ mr_mxl 0; rw [show mr_mxl 0 = 1 from by decide +kernel]; exact Nat.le_of_ble_eq_true rfl),
   fun v1 v2 v3 x st h Q => gx_one (i := .astore_n 1) (len := 1) (by decide +kernel) rfl,
   fun v0 v1 v2 v3 st h Q => gx_new (x := 10) (by decide +kernel) (by decide +kernel),
   fun v0 v1 v2 v3 x st h Q => gx_one (i := .dup) (len := 1) (by decide +kernel) rfl,
   fun v0 v1 v2 v3 o r0 h Q => gx_ini (x := 12) (t := 116) (n := 0) (by decide +kernel) (by decide +kernel) (by decide) (by decide +kernel) rfl (Or.inl (Nat.le_of_ble_eq_true rfl)) (by show _ ≤ mr_mxl 116; rw [show mr_mxl 116 = 1 from by decide +kernel]; exact Nat.le_of_ble_eq_true rfl),
   fun v0 v2 v3 w1 x st h Q => gx_one (i := .astore_n 2) (len := 1) (by decide +kernel) rfl,
   fun v0 v1 v2 v3 st h Q => gx_one (i := .iconst 0) (len := 1) (by decide +kernel) rfl,
   fun v0 v1 v3 w2 x st h Q => gx_one (i := .istore_n 3) (len := 1) (by decide +kernel) rfl,
   fun v1 v2 v3 st h Q => gx_one (i := .aload_n 0) (len := 1) (by decide +kernel) rfl,
   fun v0 v1 v2 v3 st h Q => gx_one (i := .arraylength) (len := 1) (by decide +kernel) rfl,
   fun v0 v1 v2 v3 st h Q => gx_one (i := .iconst 5) (len := 1) (by decide +kernel) rfl,
   fun v0 v1 v2 v3 x y st h Q => gx_one (i := .isub) (len := 1) (by decide +kernel) rfl,
   fun v0 v1 v2 v3 x y st h Q => gx_br (i := .if_icmp .gt 826) (len := 3) (c := .gt) (by decide +kernel) rfl rfl,
   fun v1 v2 v3 st h Q => gx_one (i := .aload_n 0) (len := 1) (by decide +kernel) rfl,
   fun v0 v1 v2 x st h Q => gx_one (i := .iload_n 3) (len := 1) (by decide +kernel) rfl,
   fun v0 v1 v2 v3 x st h Q => gx_sald (by decide +kernel),
   fun v0 v1 v2 v3 st h Q => gx_one (i := .bipush 31) (len := 2) (by decide +kernel) rfl,
   fun v0 v1 v2 v3 x y st h Q => gx_one (i := .iand) (len := 1) (by decide +kernel) rfl,
   fun v0 v2 v3 x st h Q => gx_one (i := .aload_n 1) (len := 1) (by decide +kernel) rfl,
   fun v1 v2 v3 st h Q => gx_one (i := .aload_n 0) (len := 1) (by decide +kernel) rfl,
   fun v0 v1 v2 x st h Q => gx_one (i := .iload_n 3) (len := 1) (by decide +kernel) rfl,
   fun v0 v1 v2 v3 st h Q => gx_one (i := .iconst 1) (len := 1) (by decide +kernel) rfl,
   fun v0 v1 v2 v3 x y st h Q => gx_one (i := .iadd) (len := 1) (by decide +kernel) rfl,
   fun v0 v1 v2 v3 x st h Q => gx_sald (by decide +kernel),
   fun v0 v1 v2 v3 a0 o h Q => gx_virt (x := 13) (n := 1) (by decide +kernel) (by decide +kernel) rfl (Or.inl (Nat.le_of_ble_eq_true rfl)) (by show _ ≤ mr_mxl 26; rw [show mr_mxl 26 = 2 from by decide +kernel]; exact Nat.le_of_ble_eq_true rfl) (by decide +kernel),
   fun v0 v1 v3 x st h Q => gx_one (i := .aload_n 2) (len := 1) (by decide +kernel) rfl,
   fun v1 v2 v3 st h Q => gx_one (i := .aload_n 0) (len := 1) (by decide +kernel) rfl,
   fun v0 v1 v2 x st h Q => gx_one (i := .iload_n 3) (len := 1) (by decide +kernel) rfl,
   fun v0 v1 v2 v3 st h Q => gx_one (i := .iconst 1) (len := 1) (by decide +kernel) rfl,
   fun v0 v1 v2 v3 x y st h Q => gx_one (i := .iadd) (len := 1) (by decide +kernel) rfl,
   fun v0 v1 v2 v3 x st h Q => gx_sald (by decide +kernel),
   fun v0 v1 v2 v3 a0 o r0 h Q => gx_virt (x := 17) (n := 1) (by decide +kernel) (by decide +kernel) rfl (Or.inl (Nat.le_of_ble_eq_true rfl)) (by show _ ≤ mr_mxl 120; rw [show mr_mxl 120 = 2 from by decide +kernel]; exact Nat.le_of_ble_eq_true rfl) (by decide +kernel),
   fun v0 v1 v2 v3 x y st h Q => gx_br (i := .if_icmp .eq 677) (len := 3) (c := .eq) (by decide +kernel) rfl rfl,
   fun v0 v1 v2 v3 st h Q => gx_one (i := .iconst 0) (len := 1) (by decide +kernel) rfl,
   fun v0 v1 v2 v3 x h Q hv => gx_ret (i := .ireturn) (len := 1) (by decide +kernel) rfl rfl (by simp only [mr_rt, if_pos]; rw [if_pos (Or.inr ⟨by decide +kernel, hv⟩)]),
   fun v0 v2 v3 x st h Q => gx_one (i := .aload_n 1) (len := 1) (by decide +kernel) rfl,
   fun v0 v1 v2 v3 o h Q => gx_virt (x := 18) (n := 0) (by decide +kernel) (by decide +kernel) rfl (Or.inl (Nat.le_of_ble_eq_true rfl)) (by show _ ≤ mr_mxl 28; rw [show mr_mxl 28 = 2 from by decide +kernel]; exact Nat.le_of_ble_eq_true rfl) (by decide +kernel),
   fun v0 v1 v3 x st h Q => gx_one (i := .aload_n 2) (len := 1) (by decide +kernel) rfl⟩
theorem S_law_law_1 : (∀ (v0 v1 v2 v3 : Value) (o : Nat) (r0 : Value) (h : mr_h) (Q : Option Value → mr_h → Prop), mr_wp 181 176 [v0, v1, v2, v3] [.ref o, r0] h Q = mr_rc (h.1 o) 11 (mr_run 122 [.ref o] h (fun v h' => mr_wp 181 179 [v0, v1, v2, v3] (v.toList ++ [r0]) h' Q))) ∧
    (∀ (v0 v1 v2 v3 : Value) (x : Int32) (y : Int32) (st : List Value) (h : mr_h) (Q : Option Value → mr_h → Prop), mr_wp 181 179 [v0, v1, v2, v3] (.int y :: .int x :: st) h Q = if x = y then mr_wp 181 843 [v0, v1, v2, v3] st h Q else mr_wp 181 182 [v0, v1, v2, v3] st h Q) ∧
    (∀ (v0 v1 v2 v3 : Value) (st : List Value) (h : mr_h) (Q : Option Value → mr_h → Prop), mr_wp 181 182 [v0, v1, v2, v3] st h Q = mr_wp 181 183 [v0, v1, v2, v3] (.int (0) :: st) h Q) ∧
    (∀ (v0 v1 v2 v3 : Value) (x : Int32) (h : mr_h) (Q : Option Value → mr_h → Prop) (hv : x &&& 1 = x), mr_wp 181 183 [v0, v1, v2, v3] [.int x] h Q = Q (some (.int x)) h) ∧
    (∀ (v0 v2 v3 : Value) (x : Nat) (st : List Value) (h : mr_h) (Q : Option Value → mr_h → Prop), mr_wp 181 184 [v0, .ref x, v2, v3] st h Q = mr_wp 181 185 [v0, .ref x, v2, v3] (.ref x :: st) h Q) ∧
    (∀ (v0 v1 v2 v3 : Value) (o : Nat) (h : mr_h) (Q : Option Value → mr_h → Prop), mr_wp 181 185 [v0, v1, v2, v3] [.ref o] h Q = mr_rc (h.1 o) 10 (mr_run 29 [.ref o] h (fun v h' => mr_wp 181 188 [v0, v1, v2, v3] (v.toList ++ []) h' Q))) ∧
    (∀ (v0 v1 v3 : Value) (x : Nat) (st : List Value) (h : mr_h) (Q : Option Value → mr_h → Prop), mr_wp 181 188 [v0, v1, .ref x, v3] st h Q = mr_wp 181 189 [v0, v1, .ref x, v3] (.ref x :: st) h Q) ∧
    (∀ (v0 v1 v2 v3 : Value) (o : Nat) (r0 : Value) (h : mr_h) (Q : Option Value → mr_h → Prop), mr_wp 181 189 [v0, v1, v2, v3] [.ref o, r0] h Q = mr_rc (h.1 o) 11 (mr_run 123 [.ref o] h (fun v h' => mr_wp 181 192 [v0, v1, v2, v3] (v.toList ++ [r0]) h' Q))) ∧
    (∀ (v0 v1 v2 v3 : Value) (x : Int32) (y : Int32) (st : List Value) (h : mr_h) (Q : Option Value → mr_h → Prop), mr_wp 181 192 [v0, v1, v2, v3] (.int y :: .int x :: st) h Q = if x = y then mr_wp 181 843 [v0, v1, v2, v3] st h Q else mr_wp 181 195 [v0, v1, v2, v3] st h Q) ∧
    (∀ (v0 v1 v2 v3 : Value) (st : List Value) (h : mr_h) (Q : Option Value → mr_h → Prop), mr_wp 181 195 [v0, v1, v2, v3] st h Q = mr_wp 181 196 [v0, v1, v2, v3] (.int (0) :: st) h Q) ∧
    (∀ (v0 v1 v2 v3 : Value) (x : Int32) (h : mr_h) (Q : Option Value → mr_h → Prop) (hv : x &&& 1 = x), mr_wp 181 196 [v0, v1, v2, v3] [.int x] h Q = Q (some (.int x)) h) ∧
    (∀ (v0 v2 v3 : Value) (x : Nat) (st : List Value) (h : mr_h) (Q : Option Value → mr_h → Prop), mr_wp 181 197 [v0, .ref x, v2, v3] st h Q = mr_wp 181 198 [v0, .ref x, v2, v3] (.ref x :: st) h Q) ∧
    (∀ (v1 v2 v3 : Value) (st : List Value) (h : mr_h) (Q : Option Value → mr_h → Prop), mr_wp 181 198 [.retAddr 0, v1, v2, v3] st h Q = mr_wp 181 199 [.retAddr 0, v1, v2, v3] (.retAddr 0 :: st) h Q) ∧
    (∀ (v0 v1 v2 : Value) (x : Int32) (st : List Value) (h : mr_h) (Q : Option Value → mr_h → Prop), mr_wp 181 199 [v0, v1, v2, .int x] st h Q = mr_wp 181 200 [v0, v1, v2, .int x] (.int x :: st) h Q) ∧
    (∀ (v0 v1 v2 v3 : Value) (st : List Value) (h : mr_h) (Q : Option Value → mr_h → Prop), mr_wp 181 200 [v0, v1, v2, v3] st h Q = mr_wp 181 201 [v0, v1, v2, v3] (.int (1) :: st) h Q) ∧
    (∀ (v0 v1 v2 v3 : Value) (x : Int32) (y : Int32) (st : List Value) (h : mr_h) (Q : Option Value → mr_h → Prop), mr_wp 181 201 [v0, v1, v2, v3] (.int y :: .int x :: st) h Q = mr_wp 181 202 [v0, v1, v2, v3] (.int (x + y) :: st) h Q) ∧
    (∀ (v0 v1 v2 v3 : Value) (x : Int32) (st : List Value) (h : mr_h) (Q : Option Value → mr_h → Prop), mr_wp 181 202 [v0, v1, v2, v3] (.int x :: .retAddr 0 :: st) h Q = if x < 0 ∨ h.2.2.2.1 ≤ x.toNatClampNeg then False else mr_wp 181 203 [v0, v1, v2, v3] (.int (h.2.2.2.2 x.toNatClampNeg) :: st) h Q) ∧
    (∀ (v1 v2 v3 : Value) (st : List Value) (h : mr_h) (Q : Option Value → mr_h → Prop), mr_wp 181 203 [.retAddr 0, v1, v2, v3] st h Q = mr_wp 181 204 [.retAddr 0, v1, v2, v3] (.retAddr 0 :: st) h Q) ∧
    (∀ (v0 v1 v2 : Value) (x : Int32) (st : List Value) (h : mr_h) (Q : Option Value → mr_h → Prop), mr_wp 181 204 [v0, v1, v2, .int x] st h Q = mr_wp 181 205 [v0, v1, v2, .int x] (.int x :: st) h Q) ∧
    (∀ (v0 v1 v2 v3 : Value) (st : List Value) (h : mr_h) (Q : Option Value → mr_h → Prop), mr_wp 181 205 [v0, v1, v2, v3] st h Q = mr_wp 181 206 [v0, v1, v2, v3] (.int (2) :: st) h Q) ∧
    (∀ (v0 v1 v2 v3 : Value) (x : Int32) (y : Int32) (st : List Value) (h : mr_h) (Q : Option Value → mr_h → Prop), mr_wp 181 206 [v0, v1, v2, v3] (.int y :: .int x :: st) h Q = mr_wp 181 207 [v0, v1, v2, v3] (.int (x + y) :: st) h Q) ∧
    (∀ (v0 v1 v2 v3 : Value) (x : Int32) (st : List Value) (h : mr_h) (Q : Option Value → mr_h → Prop), mr_wp 181 207 [v0, v1, v2, v3] (.int x :: .retAddr 0 :: st) h Q = if x < 0 ∨ h.2.2.2.1 ≤ x.toNatClampNeg then False else mr_wp 181 208 [v0, v1, v2, v3] (.int (h.2.2.2.2 x.toNatClampNeg) :: st) h Q) ∧
    (∀ (v0 v1 v2 v3 : Value) (a0 : Int32) (a1 : Int32) (o : Nat) (h : mr_h) (Q : Option Value → mr_h → Prop), mr_wp 181 208 [v0, v1, v2, v3] [.int a1, .int a0, .ref o] h Q = mr_rc (h.1 o) 10 (mr_run 43 [.ref o, .int a0, .int a1] h (fun v h' => mr_wp 181 211 [v0, v1, v2, v3] (v.toList ++ []) h' Q))) ∧
    (∀ (v0 v1 v3 : Value) (x : Nat) (st : List Value) (h : mr_h) (Q : Option Value → mr_h → Prop), mr_wp 181 211 [v0, v1, .ref x, v3] st h Q = mr_wp 181 212 [v0, v1, .ref x, v3] (.ref x :: st) h Q) ∧
    (∀ (v1 v2 v3 : Value) (st : List Value) (h : mr_h) (Q : Option Value → mr_h → Prop), mr_wp 181 212 [.retAddr 0, v1, v2, v3] st h Q = mr_wp 181 213 [.retAddr 0, v1, v2, v3] (.retAddr 0 :: st) h Q) ∧
    (∀ (v0 v1 v2 : Value) (x : Int32) (st : List Value) (h : mr_h) (Q : Option Value → mr_h → Prop), mr_wp 181 213 [v0, v1, v2, .int x] st h Q = mr_wp 181 214 [v0, v1, v2, .int x] (.int x :: st) h Q) ∧
    (∀ (v0 v1 v2 v3 : Value) (st : List Value) (h : mr_h) (Q : Option Value → mr_h → Prop), mr_wp 181 214 [v0, v1, v2, v3] st h Q = mr_wp 181 215 [v0, v1, v2, v3] (.int (1) :: st) h Q) ∧
    (∀ (v0 v1 v2 v3 : Value) (x : Int32) (y : Int32) (st : List Value) (h : mr_h) (Q : Option Value → mr_h → Prop), mr_wp 181 215 [v0, v1, v2, v3] (.int y :: .int x :: st) h Q = mr_wp 181 216 [v0, v1, v2, v3] (.int (x + y) :: st) h Q) ∧
    (∀ (v0 v1 v2 v3 : Value) (x : Int32) (st : List Value) (h : mr_h) (Q : Option Value → mr_h → Prop), mr_wp 181 216 [v0, v1, v2, v3] (.int x :: .retAddr 0 :: st) h Q = if x < 0 ∨ h.2.2.2.1 ≤ x.toNatClampNeg then False else mr_wp 181 217 [v0, v1, v2, v3] (.int (h.2.2.2.2 x.toNatClampNeg) :: st) h Q) ∧
    (∀ (v1 v2 v3 : Value) (st : List Value) (h : mr_h) (Q : Option Value → mr_h → Prop), mr_wp 181 217 [.retAddr 0, v1, v2, v3] st h Q = mr_wp 181 218 [.retAddr 0, v1, v2, v3] (.retAddr 0 :: st) h Q) ∧
    (∀ (v0 v1 v2 : Value) (x : Int32) (st : List Value) (h : mr_h) (Q : Option Value → mr_h → Prop), mr_wp 181 218 [v0, v1, v2, .int x] st h Q = mr_wp 181 219 [v0, v1, v2, .int x] (.int x :: st) h Q) ∧
    (∀ (v0 v1 v2 v3 : Value) (st : List Value) (h : mr_h) (Q : Option Value → mr_h → Prop), mr_wp 181 219 [v0, v1, v2, v3] st h Q = mr_wp 181 220 [v0, v1, v2, v3] (.int (2) :: st) h Q) ∧
    (∀ (v0 v1 v2 v3 : Value) (x : Int32) (y : Int32) (st : List Value) (h : mr_h) (Q : Option Value → mr_h → Prop), mr_wp 181 220 [v0, v1, v2, v3] (.int y :: .int x :: st) h Q = mr_wp 181 221 [v0, v1, v2, v3] (.int (x + y) :: st) h Q) ∧
    (∀ (v0 v1 v2 v3 : Value) (x : Int32) (st : List Value) (h : mr_h) (Q : Option Value → mr_h → Prop), mr_wp 181 221 [v0, v1, v2, v3] (.int x :: .retAddr 0 :: st) h Q = if x < 0 ∨ h.2.2.2.1 ≤ x.toNatClampNeg then False else mr_wp 181 222 [v0, v1, v2, v3] (.int (h.2.2.2.2 x.toNatClampNeg) :: st) h Q) ∧
    (∀ (v0 v1 v2 v3 : Value) (a0 : Int32) (a1 : Int32) (o : Nat) (r0 : Value) (h : mr_h) (Q : Option Value → mr_h → Prop), mr_wp 181 222 [v0, v1, v2, v3] [.int a1, .int a0, .ref o, r0] h Q = mr_rc (h.1 o) 11 (mr_run 131 [.ref o, .int a0, .int a1] h (fun v h' => mr_wp 181 225 [v0, v1, v2, v3] (v.toList ++ [r0]) h' Q))) ∧
    (∀ (v0 v1 v2 v3 : Value) (x : Int32) (y : Int32) (st : List Value) (h : mr_h) (Q : Option Value → mr_h → Prop), mr_wp 181 225 [v0, v1, v2, v3] (.int y :: .int x :: st) h Q = if x = y then mr_wp 181 843 [v0, v1, v2, v3] st h Q else mr_wp 181 228 [v0, v1, v2, v3] st h Q) ∧
    (∀ (v0 v1 v2 v3 : Value) (st : List Value) (h : mr_h) (Q : Option Value → mr_h → Prop), mr_wp 181 228 [v0, v1, v2, v3] st h Q = mr_wp 181 229 [v0, v1, v2, v3] (.int (0) :: st) h Q) ∧
    (∀ (v0 v1 v2 v3 : Value) (x : Int32) (h : mr_h) (Q : Option Value → mr_h → Prop) (hv : x &&& 1 = x), mr_wp 181 229 [v0, v1, v2, v3] [.int x] h Q = Q (some (.int x)) h) ∧
    (∀ (v0 v2 v3 : Value) (x : Nat) (st : List Value) (h : mr_h) (Q : Option Value → mr_h → Prop), mr_wp 181 230 [v0, .ref x, v2, v3] st h Q = mr_wp 181 231 [v0, .ref x, v2, v3] (.ref x :: st) h Q) ∧
    (∀ (v1 v2 v3 : Value) (st : List Value) (h : mr_h) (Q : Option Value → mr_h → Prop), mr_wp 181 231 [.retAddr 0, v1, v2, v3] st h Q = mr_wp 181 232 [.retAddr 0, v1, v2, v3] (.retAddr 0 :: st) h Q) :=
  ⟨fun v0 v1 v2 v3 o r0 h Q => gx_virt (x := 22) (n := 0) (by decide +kernel) (by decide +kernel) rfl (Or.inl (Nat.le_of_ble_eq_true rfl)) (by show _ ≤ mr_mxl 122; rw [show mr_mxl 122 = 2 from by decide +kernel]; exact Nat.le_of_ble_eq_true rfl) (by decide +kernel),
   fun v0 v1 v2 v3 x y st h Q => gx_br (i := .if_icmp .eq 664) (len := 3) (c := .eq) (by decide +kernel) rfl rfl,
   fun v0 v1 v2 v3 st h Q => gx_one (i := .iconst 0) (len := 1) (by decide +kernel) rfl,
   fun v0 v1 v2 v3 x h Q hv => gx_ret (i := .ireturn) (len := 1) (by decide +kernel) rfl rfl (by simp only [mr_rt, if_pos]; rw [if_pos (Or.inr ⟨by decide +kernel, hv⟩)]),
   fun v0 v2 v3 x st h Q => gx_one (i := .aload_n 1) (len := 1) (by decide +kernel) rfl,
   fun v0 v1 v2 v3 o h Q => gx_virt (x := 23) (n := 0) (by decide +kernel) (by decide +kernel) rfl (Or.inl (Nat.le_of_ble_eq_true rfl)) (by show _ ≤ mr_mxl 29; rw [show mr_mxl 29 = 2 from by decide +kernel]; exact Nat.le_of_ble_eq_true rfl) (by decide +kernel),
   fun v0 v1 v3 x st h Q => gx_one (i := .aload_n 2) (len := 1) (by decide +kernel) rfl,
   fun v0 v1 v2 v3 o r0 h Q => gx_virt (x := 26) (n := 0) (by decide +kernel) (by decide +kernel) rfl (Or.inl (Nat.le_of_ble_eq_true rfl)) (by show _ ≤ mr_mxl 123; rw [show mr_mxl 123 = 3 from by decide +kernel]; exact Nat.le_of_ble_eq_true rfl) (by decide +kernel),
   fun v0 v1 v2 v3 x y st h Q => gx_br (i := .if_icmp .eq 651) (len := 3) (c := .eq) (by decide +kernel) rfl rfl,
   fun v0 v1 v2 v3 st h Q => gx_one (i := .iconst 0) (len := 1) (by decide +kernel) rfl,
   fun v0 v1 v2 v3 x h Q hv => gx_ret (i := .ireturn) (len := 1) (by decide +kernel) rfl rfl (by simp only [mr_rt, if_pos]; rw [if_pos (Or.inr ⟨by decide +kernel, hv⟩)]),
   fun v0 v2 v3 x st h Q => gx_one (i := .aload_n 1) (len := 1) (by decide +kernel) rfl,
   fun v1 v2 v3 st h Q => gx_one (i := .aload_n 0) (len := 1) (by decide +kernel) rfl,
   fun v0 v1 v2 x st h Q => gx_one (i := .iload_n 3) (len := 1) (by decide +kernel) rfl,
   fun v0 v1 v2 v3 st h Q => gx_one (i := .iconst 1) (len := 1) (by decide +kernel) rfl,
   fun v0 v1 v2 v3 x y st h Q => gx_one (i := .iadd) (len := 1) (by decide +kernel) rfl,
   fun v0 v1 v2 v3 x st h Q => gx_sald (by decide +kernel),
   fun v1 v2 v3 st h Q => gx_one (i := .aload_n 0) (len := 1) (by decide +kernel) rfl,
   fun v0 v1 v2 x st h Q => gx_one (i := .iload_n 3) (len := 1) (by decide +kernel) rfl,
   fun v0 v1 v2 v3 st h Q => gx_one (i := .iconst 2) (len := 1) (by decide +kernel) rfl,
   fun v0 v1 v2 v3 x y st h Q => gx_one (i := .iadd) (len := 1) (by decide +kernel) rfl,
   fun v0 v1 v2 v3 x st h Q => gx_sald (by decide +kernel),
   fun v0 v1 v2 v3 a0 a1 o h Q => gx_virt (x := 27) (n := 2) (by decide +kernel) (by decide +kernel) rfl (Or.inl (Nat.le_of_ble_eq_true rfl)) (by show _ ≤ mr_mxl 43; rw [show mr_mxl 43 = 3 from by decide +kernel]; exact Nat.le_of_ble_eq_true rfl) (by decide +kernel),
   fun v0 v1 v3 x st h Q => gx_one (i := .aload_n 2) (len := 1) (by decide +kernel) rfl,
   fun v1 v2 v3 st h Q => gx_one (i := .aload_n 0) (len := 1) (by decide +kernel) rfl,
   fun v0 v1 v2 x st h Q => gx_one (i := .iload_n 3) (len := 1) (by decide +kernel) rfl,
   fun v0 v1 v2 v3 st h Q => gx_one (i := .iconst 1) (len := 1) (by decide +kernel) rfl,
   fun v0 v1 v2 v3 x y st h Q => gx_one (i := .iadd) (len := 1) (by decide +kernel) rfl,
   fun v0 v1 v2 v3 x st h Q => gx_sald (by decide +kernel),
   fun v1 v2 v3 st h Q => gx_one (i := .aload_n 0) (len := 1) (by decide +kernel) rfl,
   fun v0 v1 v2 x st h Q => gx_one (i := .iload_n 3) (len := 1) (by decide +kernel) rfl,
   fun v0 v1 v2 v3 st h Q => gx_one (i := .iconst 2) (len := 1) (by decide +kernel) rfl,
   fun v0 v1 v2 v3 x y st h Q => gx_one (i := .iadd) (len := 1) (by decide +kernel) rfl,
   fun v0 v1 v2 v3 x st h Q => gx_sald (by decide +kernel),
   fun v0 v1 v2 v3 a0 a1 o r0 h Q => gx_virt (x := 31) (n := 2) (by decide +kernel) (by decide +kernel) rfl (Or.inl (Nat.le_of_ble_eq_true rfl)) (by show _ ≤ mr_mxl 131; rw [show mr_mxl 131 = 3 from by decide +kernel]; exact Nat.le_of_ble_eq_true rfl) (by decide +kernel),
   fun v0 v1 v2 v3 x y st h Q => gx_br (i := .if_icmp .eq 618) (len := 3) (c := .eq) (by decide +kernel) rfl rfl,
   fun v0 v1 v2 v3 st h Q => gx_one (i := .iconst 0) (len := 1) (by decide +kernel) rfl,
   fun v0 v1 v2 v3 x h Q hv => gx_ret (i := .ireturn) (len := 1) (by decide +kernel) rfl rfl (by simp only [mr_rt, if_pos]; rw [if_pos (Or.inr ⟨by decide +kernel, hv⟩)]),
   fun v0 v2 v3 x st h Q => gx_one (i := .aload_n 1) (len := 1) (by decide +kernel) rfl,
   fun v1 v2 v3 st h Q => gx_one (i := .aload_n 0) (len := 1) (by decide +kernel) rfl⟩
theorem S_law_law_2 : (∀ (v0 v1 v2 : Value) (x : Int32) (st : List Value) (h : mr_h) (Q : Option Value → mr_h → Prop), mr_wp 181 232 [v0, v1, v2, .int x] st h Q = mr_wp 181 233 [v0, v1, v2, .int x] (.int x :: st) h Q) ∧
    (∀ (v0 v1 v2 v3 : Value) (st : List Value) (h : mr_h) (Q : Option Value → mr_h → Prop), mr_wp 181 233 [v0, v1, v2, v3] st h Q = mr_wp 181 234 [v0, v1, v2, v3] (.int (1) :: st) h Q) ∧
    (∀ (v0 v1 v2 v3 : Value) (x : Int32) (y : Int32) (st : List Value) (h : mr_h) (Q : Option Value → mr_h → Prop), mr_wp 181 234 [v0, v1, v2, v3] (.int y :: .int x :: st) h Q = mr_wp 181 235 [v0, v1, v2, v3] (.int (x + y) :: st) h Q) ∧
    (∀ (v0 v1 v2 v3 : Value) (x : Int32) (st : List Value) (h : mr_h) (Q : Option Value → mr_h → Prop), mr_wp 181 235 [v0, v1, v2, v3] (.int x :: .retAddr 0 :: st) h Q = if x < 0 ∨ h.2.2.2.1 ≤ x.toNatClampNeg then False else mr_wp 181 236 [v0, v1, v2, v3] (.int (h.2.2.2.2 x.toNatClampNeg) :: st) h Q) ∧
    (∀ (v1 v2 v3 : Value) (st : List Value) (h : mr_h) (Q : Option Value → mr_h → Prop), mr_wp 181 236 [.retAddr 0, v1, v2, v3] st h Q = mr_wp 181 237 [.retAddr 0, v1, v2, v3] (.retAddr 0 :: st) h Q) ∧
    (∀ (v0 v1 v2 : Value) (x : Int32) (st : List Value) (h : mr_h) (Q : Option Value → mr_h → Prop), mr_wp 181 237 [v0, v1, v2, .int x] st h Q = mr_wp 181 238 [v0, v1, v2, .int x] (.int x :: st) h Q) ∧
    (∀ (v0 v1 v2 v3 : Value) (st : List Value) (h : mr_h) (Q : Option Value → mr_h → Prop), mr_wp 181 238 [v0, v1, v2, v3] st h Q = mr_wp 181 239 [v0, v1, v2, v3] (.int (2) :: st) h Q) ∧
    (∀ (v0 v1 v2 v3 : Value) (x : Int32) (y : Int32) (st : List Value) (h : mr_h) (Q : Option Value → mr_h → Prop), mr_wp 181 239 [v0, v1, v2, v3] (.int y :: .int x :: st) h Q = mr_wp 181 240 [v0, v1, v2, v3] (.int (x + y) :: st) h Q) ∧
    (∀ (v0 v1 v2 v3 : Value) (x : Int32) (st : List Value) (h : mr_h) (Q : Option Value → mr_h → Prop), mr_wp 181 240 [v0, v1, v2, v3] (.int x :: .retAddr 0 :: st) h Q = if x < 0 ∨ h.2.2.2.1 ≤ x.toNatClampNeg then False else mr_wp 181 241 [v0, v1, v2, v3] (.int (h.2.2.2.2 x.toNatClampNeg) :: st) h Q) ∧
    (∀ (v0 v1 v2 v3 : Value) (a0 : Int32) (a1 : Int32) (o : Nat) (h : mr_h) (Q : Option Value → mr_h → Prop), mr_wp 181 241 [v0, v1, v2, v3] [.int a1, .int a0, .ref o] h Q = mr_rc (h.1 o) 10 (mr_run 45 [.ref o, .int a0, .int a1] h (fun v h' => mr_wp 181 244 [v0, v1, v2, v3] (v.toList ++ []) h' Q))) ∧
    (∀ (v0 v1 v3 : Value) (x : Nat) (st : List Value) (h : mr_h) (Q : Option Value → mr_h → Prop), mr_wp 181 244 [v0, v1, .ref x, v3] st h Q = mr_wp 181 245 [v0, v1, .ref x, v3] (.ref x :: st) h Q) ∧
    (∀ (v1 v2 v3 : Value) (st : List Value) (h : mr_h) (Q : Option Value → mr_h → Prop), mr_wp 181 245 [.retAddr 0, v1, v2, v3] st h Q = mr_wp 181 246 [.retAddr 0, v1, v2, v3] (.retAddr 0 :: st) h Q) ∧
    (∀ (v0 v1 v2 : Value) (x : Int32) (st : List Value) (h : mr_h) (Q : Option Value → mr_h → Prop), mr_wp 181 246 [v0, v1, v2, .int x] st h Q = mr_wp 181 247 [v0, v1, v2, .int x] (.int x :: st) h Q) ∧
    (∀ (v0 v1 v2 v3 : Value) (st : List Value) (h : mr_h) (Q : Option Value → mr_h → Prop), mr_wp 181 247 [v0, v1, v2, v3] st h Q = mr_wp 181 248 [v0, v1, v2, v3] (.int (1) :: st) h Q) ∧
    (∀ (v0 v1 v2 v3 : Value) (x : Int32) (y : Int32) (st : List Value) (h : mr_h) (Q : Option Value → mr_h → Prop), mr_wp 181 248 [v0, v1, v2, v3] (.int y :: .int x :: st) h Q = mr_wp 181 249 [v0, v1, v2, v3] (.int (x + y) :: st) h Q) ∧
    (∀ (v0 v1 v2 v3 : Value) (x : Int32) (st : List Value) (h : mr_h) (Q : Option Value → mr_h → Prop), mr_wp 181 249 [v0, v1, v2, v3] (.int x :: .retAddr 0 :: st) h Q = if x < 0 ∨ h.2.2.2.1 ≤ x.toNatClampNeg then False else mr_wp 181 250 [v0, v1, v2, v3] (.int (h.2.2.2.2 x.toNatClampNeg) :: st) h Q) ∧
    (∀ (v1 v2 v3 : Value) (st : List Value) (h : mr_h) (Q : Option Value → mr_h → Prop), mr_wp 181 250 [.retAddr 0, v1, v2, v3] st h Q = mr_wp 181 251 [.retAddr 0, v1, v2, v3] (.retAddr 0 :: st) h Q) ∧
    (∀ (v0 v1 v2 : Value) (x : Int32) (st : List Value) (h : mr_h) (Q : Option Value → mr_h → Prop), mr_wp 181 251 [v0, v1, v2, .int x] st h Q = mr_wp 181 252 [v0, v1, v2, .int x] (.int x :: st) h Q) ∧
    (∀ (v0 v1 v2 v3 : Value) (st : List Value) (h : mr_h) (Q : Option Value → mr_h → Prop), mr_wp 181 252 [v0, v1, v2, v3] st h Q = mr_wp 181 253 [v0, v1, v2, v3] (.int (2) :: st) h Q) ∧
    (∀ (v0 v1 v2 v3 : Value) (x : Int32) (y : Int32) (st : List Value) (h : mr_h) (Q : Option Value → mr_h → Prop), mr_wp 181 253 [v0, v1, v2, v3] (.int y :: .int x :: st) h Q = mr_wp 181 254 [v0, v1, v2, v3] (.int (x + y) :: st) h Q) ∧
    (∀ (v0 v1 v2 v3 : Value) (x : Int32) (st : List Value) (h : mr_h) (Q : Option Value → mr_h → Prop), mr_wp 181 254 [v0, v1, v2, v3] (.int x :: .retAddr 0 :: st) h Q = if x < 0 ∨ h.2.2.2.1 ≤ x.toNatClampNeg then False else mr_wp 181 255 [v0, v1, v2, v3] (.int (h.2.2.2.2 x.toNatClampNeg) :: st) h Q) ∧
    (∀ (v0 v1 v2 v3 : Value) (a0 : Int32) (a1 : Int32) (o : Nat) (r0 : Value) (h : mr_h) (Q : Option Value → mr_h → Prop), mr_wp 181 255 [v0, v1, v2, v3] [.int a1, .int a0, .ref o, r0] h Q = mr_rc (h.1 o) 11 (mr_run 143 [.ref o, .int a0, .int a1] h (fun v h' => mr_wp 181 258 [v0, v1, v2, v3] (v.toList ++ [r0]) h' Q))) ∧
    (∀ (v0 v1 v2 v3 : Value) (x : Int32) (y : Int32) (st : List Value) (h : mr_h) (Q : Option Value → mr_h → Prop), mr_wp 181 258 [v0, v1, v2, v3] (.int y :: .int x :: st) h Q = if x = y then mr_wp 181 843 [v0, v1, v2, v3] st h Q else mr_wp 181 261 [v0, v1, v2, v3] st h Q) ∧
    (∀ (v0 v1 v2 v3 : Value) (st : List Value) (h : mr_h) (Q : Option Value → mr_h → Prop), mr_wp 181 261 [v0, v1, v2, v3] st h Q = mr_wp 181 262 [v0, v1, v2, v3] (.int (0) :: st) h Q) ∧
    (∀ (v0 v1 v2 v3 : Value) (x : Int32) (h : mr_h) (Q : Option Value → mr_h → Prop) (hv : x &&& 1 = x), mr_wp 181 262 [v0, v1, v2, v3] [.int x] h Q = Q (some (.int x)) h) ∧
    (∀ (v0 v2 v3 : Value) (x : Nat) (st : List Value) (h : mr_h) (Q : Option Value → mr_h → Prop), mr_wp 181 263 [v0, .ref x, v2, v3] st h Q = mr_wp 181 264 [v0, .ref x, v2, v3] (.ref x :: st) h Q) ∧
    (∀ (v1 v2 v3 : Value) (st : List Value) (h : mr_h) (Q : Option Value → mr_h → Prop), mr_wp 181 264 [.retAddr 0, v1, v2, v3] st h Q = mr_wp 181 265 [.retAddr 0, v1, v2, v3] (.retAddr 0 :: st) h Q) ∧
    (∀ (v0 v1 v2 : Value) (x : Int32) (st : List Value) (h : mr_h) (Q : Option Value → mr_h → Prop), mr_wp 181 265 [v0, v1, v2, .int x] st h Q = mr_wp 181 266 [v0, v1, v2, .int x] (.int x :: st) h Q) ∧
    (∀ (v0 v1 v2 v3 : Value) (st : List Value) (h : mr_h) (Q : Option Value → mr_h → Prop), mr_wp 181 266 [v0, v1, v2, v3] st h Q = mr_wp 181 267 [v0, v1, v2, v3] (.int (1) :: st) h Q) ∧
    (∀ (v0 v1 v2 v3 : Value) (x : Int32) (y : Int32) (st : List Value) (h : mr_h) (Q : Option Value → mr_h → Prop), mr_wp 181 267 [v0, v1, v2, v3] (.int y :: .int x :: st) h Q = mr_wp 181 268 [v0, v1, v2, v3] (.int (x + y) :: st) h Q) ∧
    (∀ (v0 v1 v2 v3 : Value) (x : Int32) (st : List Value) (h : mr_h) (Q : Option Value → mr_h → Prop), mr_wp 181 268 [v0, v1, v2, v3] (.int x :: .retAddr 0 :: st) h Q = if x < 0 ∨ h.2.2.2.1 ≤ x.toNatClampNeg then False else mr_wp 181 269 [v0, v1, v2, v3] (.int (h.2.2.2.2 x.toNatClampNeg) :: st) h Q) ∧
    (∀ (v0 v1 v2 v3 : Value) (a0 : Int32) (o : Nat) (h : mr_h) (Q : Option Value → mr_h → Prop), mr_wp 181 269 [v0, v1, v2, v3] [.int a0, .ref o] h Q = mr_rc (h.1 o) 10 (mr_run 48 [.ref o, .int a0] h (fun v h' => mr_wp 181 272 [v0, v1, v2, v3] (v.toList ++ []) h' Q))) ∧
    (∀ (v0 v1 v3 : Value) (x : Nat) (st : List Value) (h : mr_h) (Q : Option Value → mr_h → Prop), mr_wp 181 272 [v0, v1, .ref x, v3] st h Q = mr_wp 181 273 [v0, v1, .ref x, v3] (.ref x :: st) h Q) ∧
    (∀ (v1 v2 v3 : Value) (st : List Value) (h : mr_h) (Q : Option Value → mr_h → Prop), mr_wp 181 273 [.retAddr 0, v1, v2, v3] st h Q = mr_wp 181 274 [.retAddr 0, v1, v2, v3] (.retAddr 0 :: st) h Q) ∧
    (∀ (v0 v1 v2 : Value) (x : Int32) (st : List Value) (h : mr_h) (Q : Option Value → mr_h → Prop), mr_wp 181 274 [v0, v1, v2, .int x] st h Q = mr_wp 181 275 [v0, v1, v2, .int x] (.int x :: st) h Q) ∧
    (∀ (v0 v1 v2 v3 : Value) (st : List Value) (h : mr_h) (Q : Option Value → mr_h → Prop), mr_wp 181 275 [v0, v1, v2, v3] st h Q = mr_wp 181 276 [v0, v1, v2, v3] (.int (1) :: st) h Q) ∧
    (∀ (v0 v1 v2 v3 : Value) (x : Int32) (y : Int32) (st : List Value) (h : mr_h) (Q : Option Value → mr_h → Prop), mr_wp 181 276 [v0, v1, v2, v3] (.int y :: .int x :: st) h Q = mr_wp 181 277 [v0, v1, v2, v3] (.int (x + y) :: st) h Q) ∧
    (∀ (v0 v1 v2 v3 : Value) (x : Int32) (st : List Value) (h : mr_h) (Q : Option Value → mr_h → Prop), mr_wp 181 277 [v0, v1, v2, v3] (.int x :: .retAddr 0 :: st) h Q = if x < 0 ∨ h.2.2.2.1 ≤ x.toNatClampNeg then False else mr_wp 181 278 [v0, v1, v2, v3] (.int (h.2.2.2.2 x.toNatClampNeg) :: st) h Q) ∧
    (∀ (v0 v1 v2 v3 : Value) (a0 : Int32) (o : Nat) (r0 : Value) (h : mr_h) (Q : Option Value → mr_h → Prop), mr_wp 181 278 [v0, v1, v2, v3] [.int a0, .ref o, r0] h Q = mr_rc (h.1 o) 11 (mr_run 145 [.ref o, .int a0] h (fun v h' => mr_wp 181 281 [v0, v1, v2, v3] (v.toList ++ [r0]) h' Q))) ∧
    (∀ (v0 v1 v2 v3 : Value) (x : Int32) (y : Int32) (st : List Value) (h : mr_h) (Q : Option Value → mr_h → Prop), mr_wp 181 281 [v0, v1, v2, v3] (.int y :: .int x :: st) h Q = if x = y then mr_wp 181 843 [v0, v1, v2, v3] st h Q else mr_wp 181 284 [v0, v1, v2, v3] st h Q) :=
  ⟨fun v0 v1 v2 x st h Q => gx_one (i := .iload_n 3) (len := 1) (by decide +kernel) rfl,
   fun v0 v1 v2 v3 st h Q => gx_one (i := .iconst 1) (len := 1) (by decide +kernel) rfl,
   fun v0 v1 v2 v3 x y st h Q => gx_one (i := .iadd) (len := 1) (by decide +kernel) rfl,
   fun v0 v1 v2 v3 x st h Q => gx_sald (by decide +kernel),
   fun v1 v2 v3 st h Q => gx_one (i := .aload_n 0) (len := 1) (by decide +kernel) rfl,
   fun v0 v1 v2 x st h Q => gx_one (i := .iload_n 3) (len := 1) (by decide +kernel) rfl,
   fun v0 v1 v2 v3 st h Q => gx_one (i := .iconst 2) (len := 1) (by decide +kernel) rfl,
   fun v0 v1 v2 v3 x y st h Q => gx_one (i := .iadd) (len := 1) (by decide +kernel) rfl,
   fun v0 v1 v2 v3 x st h Q => gx_sald (by decide +kernel),
   fun v0 v1 v2 v3 a0 a1 o h Q => gx_virt (x := 32) (n := 2) (by decide +kernel) (by decide +kernel) rfl (Or.inl (Nat.le_of_ble_eq_true rfl)) (by show _ ≤ mr_mxl 45; rw [show mr_mxl 45 = 3 from by decide +kernel]; exact Nat.le_of_ble_eq_true rfl) (by decide +kernel),
   fun v0 v1 v3 x st h Q => gx_one (i := .aload_n 2) (len := 1) (by decide +kernel) rfl,
   fun v1 v2 v3 st h Q => gx_one (i := .aload_n 0) (len := 1) (by decide +kernel) rfl,
   fun v0 v1 v2 x st h Q => gx_one (i := .iload_n 3) (len := 1) (by decide +kernel) rfl,
   fun v0 v1 v2 v3 st h Q => gx_one (i := .iconst 1) (len := 1) (by decide +kernel) rfl,
   fun v0 v1 v2 v3 x y st h Q => gx_one (i := .iadd) (len := 1) (by decide +kernel) rfl,
   fun v0 v1 v2 v3 x st h Q => gx_sald (by decide +kernel),
   fun v1 v2 v3 st h Q => gx_one (i := .aload_n 0) (len := 1) (by decide +kernel) rfl,
   fun v0 v1 v2 x st h Q => gx_one (i := .iload_n 3) (len := 1) (by decide +kernel) rfl,
   fun v0 v1 v2 v3 st h Q => gx_one (i := .iconst 2) (len := 1) (by decide +kernel) rfl,
   fun v0 v1 v2 v3 x y st h Q => gx_one (i := .iadd) (len := 1) (by decide +kernel) rfl,
   fun v0 v1 v2 v3 x st h Q => gx_sald (by decide +kernel),
   fun v0 v1 v2 v3 a0 a1 o r0 h Q => gx_virt (x := 35) (n := 2) (by decide +kernel) (by decide +kernel) rfl (Or.inl (Nat.le_of_ble_eq_true rfl)) (by show _ ≤ mr_mxl 143; rw [show mr_mxl 143 = 3 from by decide +kernel]; exact Nat.le_of_ble_eq_true rfl) (by decide +kernel),
   fun v0 v1 v2 v3 x y st h Q => gx_br (i := .if_icmp .eq 585) (len := 3) (c := .eq) (by decide +kernel) rfl rfl,
   fun v0 v1 v2 v3 st h Q => gx_one (i := .iconst 0) (len := 1) (by decide +kernel) rfl,
   fun v0 v1 v2 v3 x h Q hv => gx_ret (i := .ireturn) (len := 1) (by decide +kernel) rfl rfl (by simp only [mr_rt, if_pos]; rw [if_pos (Or.inr ⟨by decide +kernel, hv⟩)]),
   fun v0 v2 v3 x st h Q => gx_one (i := .aload_n 1) (len := 1) (by decide +kernel) rfl,
   fun v1 v2 v3 st h Q => gx_one (i := .aload_n 0) (len := 1) (by decide +kernel) rfl,
   fun v0 v1 v2 x st h Q => gx_one (i := .iload_n 3) (len := 1) (by decide +kernel) rfl,
   fun v0 v1 v2 v3 st h Q => gx_one (i := .iconst 1) (len := 1) (by decide +kernel) rfl,
   fun v0 v1 v2 v3 x y st h Q => gx_one (i := .iadd) (len := 1) (by decide +kernel) rfl,
   fun v0 v1 v2 v3 x st h Q => gx_sald (by decide +kernel),
   fun v0 v1 v2 v3 a0 o h Q => gx_virt (x := 36) (n := 1) (by decide +kernel) (by decide +kernel) rfl (Or.inl (Nat.le_of_ble_eq_true rfl)) (by show _ ≤ mr_mxl 48; rw [show mr_mxl 48 = 2 from by decide +kernel]; exact Nat.le_of_ble_eq_true rfl) (by decide +kernel),
   fun v0 v1 v3 x st h Q => gx_one (i := .aload_n 2) (len := 1) (by decide +kernel) rfl,
   fun v1 v2 v3 st h Q => gx_one (i := .aload_n 0) (len := 1) (by decide +kernel) rfl,
   fun v0 v1 v2 x st h Q => gx_one (i := .iload_n 3) (len := 1) (by decide +kernel) rfl,
   fun v0 v1 v2 v3 st h Q => gx_one (i := .iconst 1) (len := 1) (by decide +kernel) rfl,
   fun v0 v1 v2 v3 x y st h Q => gx_one (i := .iadd) (len := 1) (by decide +kernel) rfl,
   fun v0 v1 v2 v3 x st h Q => gx_sald (by decide +kernel),
   fun v0 v1 v2 v3 a0 o r0 h Q => gx_virt (x := 39) (n := 1) (by decide +kernel) (by decide +kernel) rfl (Or.inl (Nat.le_of_ble_eq_true rfl)) (by show _ ≤ mr_mxl 145; rw [show mr_mxl 145 = 2 from by decide +kernel]; exact Nat.le_of_ble_eq_true rfl) (by decide +kernel),
   fun v0 v1 v2 v3 x y st h Q => gx_br (i := .if_icmp .eq 562) (len := 3) (c := .eq) (by decide +kernel) rfl rfl⟩
theorem S_law_law_3 : (∀ (v0 v1 v2 v3 : Value) (st : List Value) (h : mr_h) (Q : Option Value → mr_h → Prop), mr_wp 181 284 [v0, v1, v2, v3] st h Q = mr_wp 181 285 [v0, v1, v2, v3] (.int (0) :: st) h Q) ∧
    (∀ (v0 v1 v2 v3 : Value) (x : Int32) (h : mr_h) (Q : Option Value → mr_h → Prop) (hv : x &&& 1 = x), mr_wp 181 285 [v0, v1, v2, v3] [.int x] h Q = Q (some (.int x)) h) ∧
    (∀ (v0 v2 v3 : Value) (x : Nat) (st : List Value) (h : mr_h) (Q : Option Value → mr_h → Prop), mr_wp 181 286 [v0, .ref x, v2, v3] st h Q = mr_wp 181 287 [v0, .ref x, v2, v3] (.ref x :: st) h Q) ∧
    (∀ (v1 v2 v3 : Value) (st : List Value) (h : mr_h) (Q : Option Value → mr_h → Prop), mr_wp 181 287 [.retAddr 0, v1, v2, v3] st h Q = mr_wp 181 288 [.retAddr 0, v1, v2, v3] (.retAddr 0 :: st) h Q) ∧
    (∀ (v0 v1 v2 : Value) (x : Int32) (st : List Value) (h : mr_h) (Q : Option Value → mr_h → Prop), mr_wp 181 288 [v0, v1, v2, .int x] st h Q = mr_wp 181 289 [v0, v1, v2, .int x] (.int x :: st) h Q) ∧
    (∀ (v0 v1 v2 v3 : Value) (st : List Value) (h : mr_h) (Q : Option Value → mr_h → Prop), mr_wp 181 289 [v0, v1, v2, v3] st h Q = mr_wp 181 290 [v0, v1, v2, v3] (.int (1) :: st) h Q) ∧
    (∀ (v0 v1 v2 v3 : Value) (x : Int32) (y : Int32) (st : List Value) (h : mr_h) (Q : Option Value → mr_h → Prop), mr_wp 181 290 [v0, v1, v2, v3] (.int y :: .int x :: st) h Q = mr_wp 181 291 [v0, v1, v2, v3] (.int (x + y) :: st) h Q) ∧
    (∀ (v0 v1 v2 v3 : Value) (x : Int32) (st : List Value) (h : mr_h) (Q : Option Value → mr_h → Prop), mr_wp 181 291 [v0, v1, v2, v3] (.int x :: .retAddr 0 :: st) h Q = if x < 0 ∨ h.2.2.2.1 ≤ x.toNatClampNeg then False else mr_wp 181 292 [v0, v1, v2, v3] (.int (h.2.2.2.2 x.toNatClampNeg) :: st) h Q) ∧
    (∀ (v1 v2 v3 : Value) (st : List Value) (h : mr_h) (Q : Option Value → mr_h → Prop), mr_wp 181 292 [.retAddr 0, v1, v2, v3] st h Q = mr_wp 181 293 [.retAddr 0, v1, v2, v3] (.retAddr 0 :: st) h Q) ∧
    (∀ (v0 v1 v2 : Value) (x : Int32) (st : List Value) (h : mr_h) (Q : Option Value → mr_h → Prop), mr_wp 181 293 [v0, v1, v2, .int x] st h Q = mr_wp 181 294 [v0, v1, v2, .int x] (.int x :: st) h Q) ∧
    (∀ (v0 v1 v2 v3 : Value) (st : List Value) (h : mr_h) (Q : Option Value → mr_h → Prop), mr_wp 181 294 [v0, v1, v2, v3] st h Q = mr_wp 181 295 [v0, v1, v2, v3] (.int (2) :: st) h Q) ∧
    (∀ (v0 v1 v2 v3 : Value) (x : Int32) (y : Int32) (st : List Value) (h : mr_h) (Q : Option Value → mr_h → Prop), mr_wp 181 295 [v0, v1, v2, v3] (.int y :: .int x :: st) h Q = mr_wp 181 296 [v0, v1, v2, v3] (.int (x + y) :: st) h Q) ∧
    (∀ (v0 v1 v2 v3 : Value) (x : Int32) (st : List Value) (h : mr_h) (Q : Option Value → mr_h → Prop), mr_wp 181 296 [v0, v1, v2, v3] (.int x :: .retAddr 0 :: st) h Q = if x < 0 ∨ h.2.2.2.1 ≤ x.toNatClampNeg then False else mr_wp 181 297 [v0, v1, v2, v3] (.int (h.2.2.2.2 x.toNatClampNeg) :: st) h Q) ∧
    (∀ (v0 v1 v2 v3 : Value) (a0 : Int32) (a1 : Int32) (o : Nat) (h : mr_h) (Q : Option Value → mr_h → Prop), mr_wp 181 297 [v0, v1, v2, v3] [.int a1, .int a0, .ref o] h Q = mr_rc (h.1 o) 10 (mr_run 62 [.ref o, .int a0, .int a1] h (fun v h' => mr_wp 181 300 [v0, v1, v2, v3] (v.toList ++ []) h' Q))) ∧
    (∀ (v0 v1 v3 : Value) (x : Nat) (st : List Value) (h : mr_h) (Q : Option Value → mr_h → Prop), mr_wp 181 300 [v0, v1, .ref x, v3] st h Q = mr_wp 181 301 [v0, v1, .ref x, v3] (.ref x :: st) h Q) ∧
    (∀ (v1 v2 v3 : Value) (st : List Value) (h : mr_h) (Q : Option Value → mr_h → Prop), mr_wp 181 301 [.retAddr 0, v1, v2, v3] st h Q = mr_wp 181 302 [.retAddr 0, v1, v2, v3] (.retAddr 0 :: st) h Q) ∧
    (∀ (v0 v1 v2 : Value) (x : Int32) (st : List Value) (h : mr_h) (Q : Option Value → mr_h → Prop), mr_wp 181 302 [v0, v1, v2, .int x] st h Q = mr_wp 181 303 [v0, v1, v2, .int x] (.int x :: st) h Q) ∧
    (∀ (v0 v1 v2 v3 : Value) (st : List Value) (h : mr_h) (Q : Option Value → mr_h → Prop), mr_wp 181 303 [v0, v1, v2, v3] st h Q = mr_wp 181 304 [v0, v1, v2, v3] (.int (1) :: st) h Q) ∧
    (∀ (v0 v1 v2 v3 : Value) (x : Int32) (y : Int32) (st : List Value) (h : mr_h) (Q : Option Value → mr_h → Prop), mr_wp 181 304 [v0, v1, v2, v3] (.int y :: .int x :: st) h Q = mr_wp 181 305 [v0, v1, v2, v3] (.int (x + y) :: st) h Q) ∧
    (∀ (v0 v1 v2 v3 : Value) (x : Int32) (st : List Value) (h : mr_h) (Q : Option Value → mr_h → Prop), mr_wp 181 305 [v0, v1, v2, v3] (.int x :: .retAddr 0 :: st) h Q = if x < 0 ∨ h.2.2.2.1 ≤ x.toNatClampNeg then False else mr_wp 181 306 [v0, v1, v2, v3] (.int (h.2.2.2.2 x.toNatClampNeg) :: st) h Q) ∧
    (∀ (v1 v2 v3 : Value) (st : List Value) (h : mr_h) (Q : Option Value → mr_h → Prop), mr_wp 181 306 [.retAddr 0, v1, v2, v3] st h Q = mr_wp 181 307 [.retAddr 0, v1, v2, v3] (.retAddr 0 :: st) h Q) ∧
    (∀ (v0 v1 v2 : Value) (x : Int32) (st : List Value) (h : mr_h) (Q : Option Value → mr_h → Prop), mr_wp 181 307 [v0, v1, v2, .int x] st h Q = mr_wp 181 308 [v0, v1, v2, .int x] (.int x :: st) h Q) ∧
    (∀ (v0 v1 v2 v3 : Value) (st : List Value) (h : mr_h) (Q : Option Value → mr_h → Prop), mr_wp 181 308 [v0, v1, v2, v3] st h Q = mr_wp 181 309 [v0, v1, v2, v3] (.int (2) :: st) h Q) ∧
    (∀ (v0 v1 v2 v3 : Value) (x : Int32) (y : Int32) (st : List Value) (h : mr_h) (Q : Option Value → mr_h → Prop), mr_wp 181 309 [v0, v1, v2, v3] (.int y :: .int x :: st) h Q = mr_wp 181 310 [v0, v1, v2, v3] (.int (x + y) :: st) h Q) ∧
    (∀ (v0 v1 v2 v3 : Value) (x : Int32) (st : List Value) (h : mr_h) (Q : Option Value → mr_h → Prop), mr_wp 181 310 [v0, v1, v2, v3] (.int x :: .retAddr 0 :: st) h Q = if x < 0 ∨ h.2.2.2.1 ≤ x.toNatClampNeg then False else mr_wp 181 311 [v0, v1, v2, v3] (.int (h.2.2.2.2 x.toNatClampNeg) :: st) h Q) ∧
    (∀ (v0 v1 v2 v3 : Value) (a0 : Int32) (a1 : Int32) (o : Nat) (r0 : Value) (h : mr_h) (Q : Option Value → mr_h → Prop), mr_wp 181 311 [v0, v1, v2, v3] [.int a1, .int a0, .ref o, r0] h Q = mr_rc (h.1 o) 11 (mr_run 156 [.ref o, .int a0, .int a1] h (fun v h' => mr_wp 181 314 [v0, v1, v2, v3] (v.toList ++ [r0]) h' Q))) ∧
    (∀ (v0 v1 v2 v3 : Value) (x : Int32) (y : Int32) (st : List Value) (h : mr_h) (Q : Option Value → mr_h → Prop), mr_wp 181 314 [v0, v1, v2, v3] (.int y :: .int x :: st) h Q = if x = y then mr_wp 181 843 [v0, v1, v2, v3] st h Q else mr_wp 181 317 [v0, v1, v2, v3] st h Q) ∧
    (∀ (v0 v1 v2 v3 : Value) (st : List Value) (h : mr_h) (Q : Option Value → mr_h → Prop), mr_wp 181 317 [v0, v1, v2, v3] st h Q = mr_wp 181 318 [v0, v1, v2, v3] (.int (0) :: st) h Q) ∧
    (∀ (v0 v1 v2 v3 : Value) (x : Int32) (h : mr_h) (Q : Option Value → mr_h → Prop) (hv : x &&& 1 = x), mr_wp 181 318 [v0, v1, v2, v3] [.int x] h Q = Q (some (.int x)) h) ∧
    (∀ (v0 v2 v3 : Value) (x : Nat) (st : List Value) (h : mr_h) (Q : Option Value → mr_h → Prop), mr_wp 181 319 [v0, .ref x, v2, v3] st h Q = mr_wp 181 320 [v0, .ref x, v2, v3] (.ref x :: st) h Q) ∧
    (∀ (v1 v2 v3 : Value) (st : List Value) (h : mr_h) (Q : Option Value → mr_h → Prop), mr_wp 181 320 [.retAddr 0, v1, v2, v3] st h Q = mr_wp 181 321 [.retAddr 0, v1, v2, v3] (.retAddr 0 :: st) h Q) ∧
    (∀ (v0 v1 v2 : Value) (x : Int32) (st : List Value) (h : mr_h) (Q : Option Value → mr_h → Prop), mr_wp 181 321 [v0, v1, v2, .int x] st h Q = mr_wp 181 322 [v0, v1, v2, .int x] (.int x :: st) h Q) ∧
    (∀ (v0 v1 v2 v3 : Value) (st : List Value) (h : mr_h) (Q : Option Value → mr_h → Prop), mr_wp 181 322 [v0, v1, v2, v3] st h Q = mr_wp 181 323 [v0, v1, v2, v3] (.int (1) :: st) h Q) ∧
    (∀ (v0 v1 v2 v3 : Value) (x : Int32) (y : Int32) (st : List Value) (h : mr_h) (Q : Option Value → mr_h → Prop), mr_wp 181 323 [v0, v1, v2, v3] (.int y :: .int x :: st) h Q = mr_wp 181 324 [v0, v1, v2, v3] (.int (x + y) :: st) h Q) ∧
    (∀ (v0 v1 v2 v3 : Value) (x : Int32) (st : List Value) (h : mr_h) (Q : Option Value → mr_h → Prop), mr_wp 181 324 [v0, v1, v2, v3] (.int x :: .retAddr 0 :: st) h Q = if x < 0 ∨ h.2.2.2.1 ≤ x.toNatClampNeg then False else mr_wp 181 325 [v0, v1, v2, v3] (.int (h.2.2.2.2 x.toNatClampNeg) :: st) h Q) ∧
    (∀ (v1 v2 v3 : Value) (st : List Value) (h : mr_h) (Q : Option Value → mr_h → Prop), mr_wp 181 325 [.retAddr 0, v1, v2, v3] st h Q = mr_wp 181 326 [.retAddr 0, v1, v2, v3] (.retAddr 0 :: st) h Q) ∧
    (∀ (v0 v1 v2 : Value) (x : Int32) (st : List Value) (h : mr_h) (Q : Option Value → mr_h → Prop), mr_wp 181 326 [v0, v1, v2, .int x] st h Q = mr_wp 181 327 [v0, v1, v2, .int x] (.int x :: st) h Q) ∧
    (∀ (v0 v1 v2 v3 : Value) (st : List Value) (h : mr_h) (Q : Option Value → mr_h → Prop), mr_wp 181 327 [v0, v1, v2, v3] st h Q = mr_wp 181 328 [v0, v1, v2, v3] (.int (2) :: st) h Q) ∧
    (∀ (v0 v1 v2 v3 : Value) (x : Int32) (y : Int32) (st : List Value) (h : mr_h) (Q : Option Value → mr_h → Prop), mr_wp 181 328 [v0, v1, v2, v3] (.int y :: .int x :: st) h Q = mr_wp 181 329 [v0, v1, v2, v3] (.int (x + y) :: st) h Q) ∧
    (∀ (v0 v1 v2 v3 : Value) (x : Int32) (st : List Value) (h : mr_h) (Q : Option Value → mr_h → Prop), mr_wp 181 329 [v0, v1, v2, v3] (.int x :: .retAddr 0 :: st) h Q = if x < 0 ∨ h.2.2.2.1 ≤ x.toNatClampNeg then False else mr_wp 181 330 [v0, v1, v2, v3] (.int (h.2.2.2.2 x.toNatClampNeg) :: st) h Q) :=
  ⟨fun v0 v1 v2 v3 st h Q => gx_one (i := .iconst 0) (len := 1) (by decide +kernel) rfl,
   fun v0 v1 v2 v3 x h Q hv => gx_ret (i := .ireturn) (len := 1) (by decide +kernel) rfl rfl (by simp only [mr_rt, if_pos]; rw [if_pos (Or.inr ⟨by decide +kernel, hv⟩)]),
   fun v0 v2 v3 x st h Q => gx_one (i := .aload_n 1) (len := 1) (by decide +kernel) rfl,
   fun v1 v2 v3 st h Q => gx_one (i := .aload_n 0) (len := 1) (by decide +kernel) rfl,
   fun v0 v1 v2 x st h Q => gx_one (i := .iload_n 3) (len := 1) (by decide +kernel) rfl,
   fun v0 v1 v2 v3 st h Q => gx_one (i := .iconst 1) (len := 1) (by decide +kernel) rfl,
   fun v0 v1 v2 v3 x y st h Q => gx_one (i := .iadd) (len := 1) (by decide +kernel) rfl,
   fun v0 v1 v2 v3 x st h Q => gx_sald (by decide +kernel),
   fun v1 v2 v3 st h Q => gx_one (i := .aload_n 0) (len := 1) (by decide +kernel) rfl,
   fun v0 v1 v2 x st h Q => gx_one (i := .iload_n 3) (len := 1) (by decide +kernel) rfl,
   fun v0 v1 v2 v3 st h Q => gx_one (i := .iconst 2) (len := 1) (by decide +kernel) rfl,
   fun v0 v1 v2 v3 x y st h Q => gx_one (i := .iadd) (len := 1) (by decide +kernel) rfl,
   fun v0 v1 v2 v3 x st h Q => gx_sald (by decide +kernel),
   fun v0 v1 v2 v3 a0 a1 o h Q => gx_virt (x := 40) (n := 2) (by decide +kernel) (by decide +kernel) rfl (Or.inl (Nat.le_of_ble_eq_true rfl)) (by show _ ≤ mr_mxl 62; rw [show mr_mxl 62 = 3 from by decide +kernel]; exact Nat.le_of_ble_eq_true rfl) (by decide +kernel),
   fun v0 v1 v3 x st h Q => gx_one (i := .aload_n 2) (len := 1) (by decide +kernel) rfl,
   fun v1 v2 v3 st h Q => gx_one (i := .aload_n 0) (len := 1) (by decide +kernel) rfl,
   fun v0 v1 v2 x st h Q => gx_one (i := .iload_n 3) (len := 1) (by decide +kernel) rfl,
   fun v0 v1 v2 v3 st h Q => gx_one (i := .iconst 1) (len := 1) (by decide +kernel) rfl,
   fun v0 v1 v2 v3 x y st h Q => gx_one (i := .iadd) (len := 1) (by decide +kernel) rfl,
   fun v0 v1 v2 v3 x st h Q => gx_sald (by decide +kernel),
   fun v1 v2 v3 st h Q => gx_one (i := .aload_n 0) (len := 1) (by decide +kernel) rfl,
   fun v0 v1 v2 x st h Q => gx_one (i := .iload_n 3) (len := 1) (by decide +kernel) rfl,
   fun v0 v1 v2 v3 st h Q => gx_one (i := .iconst 2) (len := 1) (by decide +kernel) rfl,
   fun v0 v1 v2 v3 x y st h Q => gx_one (i := .iadd) (len := 1) (by decide +kernel) rfl,
   fun v0 v1 v2 v3 x st h Q => gx_sald (by decide +kernel),
   fun v0 v1 v2 v3 a0 a1 o r0 h Q => gx_virt (x := 43) (n := 2) (by decide +kernel) (by decide +kernel) rfl (Or.inl (Nat.le_of_ble_eq_true rfl)) (by show _ ≤ mr_mxl 156; rw [show mr_mxl 156 = 3 from by decide +kernel]; exact Nat.le_of_ble_eq_true rfl) (by decide +kernel),
   fun v0 v1 v2 v3 x y st h Q => gx_br (i := .if_icmp .eq 529) (len := 3) (c := .eq) (by decide +kernel) rfl rfl,
   fun v0 v1 v2 v3 st h Q => gx_one (i := .iconst 0) (len := 1) (by decide +kernel) rfl,
   fun v0 v1 v2 v3 x h Q hv => gx_ret (i := .ireturn) (len := 1) (by decide +kernel) rfl rfl (by simp only [mr_rt, if_pos]; rw [if_pos (Or.inr ⟨by decide +kernel, hv⟩)]),
   fun v0 v2 v3 x st h Q => gx_one (i := .aload_n 1) (len := 1) (by decide +kernel) rfl,
   fun v1 v2 v3 st h Q => gx_one (i := .aload_n 0) (len := 1) (by decide +kernel) rfl,
   fun v0 v1 v2 x st h Q => gx_one (i := .iload_n 3) (len := 1) (by decide +kernel) rfl,
   fun v0 v1 v2 v3 st h Q => gx_one (i := .iconst 1) (len := 1) (by decide +kernel) rfl,
   fun v0 v1 v2 v3 x y st h Q => gx_one (i := .iadd) (len := 1) (by decide +kernel) rfl,
   fun v0 v1 v2 v3 x st h Q => gx_sald (by decide +kernel),
   fun v1 v2 v3 st h Q => gx_one (i := .aload_n 0) (len := 1) (by decide +kernel) rfl,
   fun v0 v1 v2 x st h Q => gx_one (i := .iload_n 3) (len := 1) (by decide +kernel) rfl,
   fun v0 v1 v2 v3 st h Q => gx_one (i := .iconst 2) (len := 1) (by decide +kernel) rfl,
   fun v0 v1 v2 v3 x y st h Q => gx_one (i := .iadd) (len := 1) (by decide +kernel) rfl,
   fun v0 v1 v2 v3 x st h Q => gx_sald (by decide +kernel)⟩
theorem S_law_law_4 : (∀ (v0 v1 v2 v3 : Value) (a0 : Int32) (a1 : Int32) (o : Nat) (h : mr_h) (Q : Option Value → mr_h → Prop), mr_wp 181 330 [v0, v1, v2, v3] [.int a1, .int a0, .ref o] h Q = mr_rc (h.1 o) 10 (mr_run 66 [.ref o, .int a0, .int a1] h (fun v h' => mr_wp 181 333 [v0, v1, v2, v3] (v.toList ++ []) h' Q))) ∧
    (∀ (v0 v1 v3 : Value) (x : Nat) (st : List Value) (h : mr_h) (Q : Option Value → mr_h → Prop), mr_wp 181 333 [v0, v1, .ref x, v3] st h Q = mr_wp 181 334 [v0, v1, .ref x, v3] (.ref x :: st) h Q) ∧
    (∀ (v1 v2 v3 : Value) (st : List Value) (h : mr_h) (Q : Option Value → mr_h → Prop), mr_wp 181 334 [.retAddr 0, v1, v2, v3] st h Q = mr_wp 181 335 [.retAddr 0, v1, v2, v3] (.retAddr 0 :: st) h Q) ∧
    (∀ (v0 v1 v2 : Value) (x : Int32) (st : List Value) (h : mr_h) (Q : Option Value → mr_h → Prop), mr_wp 181 335 [v0, v1, v2, .int x] st h Q = mr_wp 181 336 [v0, v1, v2, .int x] (.int x :: st) h Q) ∧
    (∀ (v0 v1 v2 v3 : Value) (st : List Value) (h : mr_h) (Q : Option Value → mr_h → Prop), mr_wp 181 336 [v0, v1, v2, v3] st h Q = mr_wp 181 337 [v0, v1, v2, v3] (.int (1) :: st) h Q) ∧
    (∀ (v0 v1 v2 v3 : Value) (x : Int32) (y : Int32) (st : List Value) (h : mr_h) (Q : Option Value → mr_h → Prop), mr_wp 181 337 [v0, v1, v2, v3] (.int y :: .int x :: st) h Q = mr_wp 181 338 [v0, v1, v2, v3] (.int (x + y) :: st) h Q) ∧
    (∀ (v0 v1 v2 v3 : Value) (x : Int32) (st : List Value) (h : mr_h) (Q : Option Value → mr_h → Prop), mr_wp 181 338 [v0, v1, v2, v3] (.int x :: .retAddr 0 :: st) h Q = if x < 0 ∨ h.2.2.2.1 ≤ x.toNatClampNeg then False else mr_wp 181 339 [v0, v1, v2, v3] (.int (h.2.2.2.2 x.toNatClampNeg) :: st) h Q) ∧
    (∀ (v1 v2 v3 : Value) (st : List Value) (h : mr_h) (Q : Option Value → mr_h → Prop), mr_wp 181 339 [.retAddr 0, v1, v2, v3] st h Q = mr_wp 181 340 [.retAddr 0, v1, v2, v3] (.retAddr 0 :: st) h Q) ∧
    (∀ (v0 v1 v2 : Value) (x : Int32) (st : List Value) (h : mr_h) (Q : Option Value → mr_h → Prop), mr_wp 181 340 [v0, v1, v2, .int x] st h Q = mr_wp 181 341 [v0, v1, v2, .int x] (.int x :: st) h Q) ∧
    (∀ (v0 v1 v2 v3 : Value) (st : List Value) (h : mr_h) (Q : Option Value → mr_h → Prop), mr_wp 181 341 [v0, v1, v2, v3] st h Q = mr_wp 181 342 [v0, v1, v2, v3] (.int (2) :: st) h Q) ∧
    (∀ (v0 v1 v2 v3 : Value) (x : Int32) (y : Int32) (st : List Value) (h : mr_h) (Q : Option Value → mr_h → Prop), mr_wp 181 342 [v0, v1, v2, v3] (.int y :: .int x :: st) h Q = mr_wp 181 343 [v0, v1, v2, v3] (.int (x + y) :: st) h Q) ∧
    (∀ (v0 v1 v2 v3 : Value) (x : Int32) (st : List Value) (h : mr_h) (Q : Option Value → mr_h → Prop), mr_wp 181 343 [v0, v1, v2, v3] (.int x :: .retAddr 0 :: st) h Q = if x < 0 ∨ h.2.2.2.1 ≤ x.toNatClampNeg then False else mr_wp 181 344 [v0, v1, v2, v3] (.int (h.2.2.2.2 x.toNatClampNeg) :: st) h Q) ∧
    (∀ (v0 v1 v2 v3 : Value) (a0 : Int32) (a1 : Int32) (o : Nat) (r0 : Value) (h : mr_h) (Q : Option Value → mr_h → Prop), mr_wp 181 344 [v0, v1, v2, v3] [.int a1, .int a0, .ref o, r0] h Q = mr_rc (h.1 o) 11 (mr_run 158 [.ref o, .int a0, .int a1] h (fun v h' => mr_wp 181 347 [v0, v1, v2, v3] (v.toList ++ [r0]) h' Q))) ∧
    (∀ (v0 v1 v2 v3 : Value) (x : Int32) (y : Int32) (st : List Value) (h : mr_h) (Q : Option Value → mr_h → Prop), mr_wp 181 347 [v0, v1, v2, v3] (.int y :: .int x :: st) h Q = if x = y then mr_wp 181 843 [v0, v1, v2, v3] st h Q else mr_wp 181 350 [v0, v1, v2, v3] st h Q) ∧
    (∀ (v0 v1 v2 v3 : Value) (st : List Value) (h : mr_h) (Q : Option Value → mr_h → Prop), mr_wp 181 350 [v0, v1, v2, v3] st h Q = mr_wp 181 351 [v0, v1, v2, v3] (.int (0) :: st) h Q) ∧
    (∀ (v0 v1 v2 v3 : Value) (x : Int32) (h : mr_h) (Q : Option Value → mr_h → Prop) (hv : x &&& 1 = x), mr_wp 181 351 [v0, v1, v2, v3] [.int x] h Q = Q (some (.int x)) h) ∧
    (∀ (v0 v2 v3 : Value) (x : Nat) (st : List Value) (h : mr_h) (Q : Option Value → mr_h → Prop), mr_wp 181 352 [v0, .ref x, v2, v3] st h Q = mr_wp 181 353 [v0, .ref x, v2, v3] (.ref x :: st) h Q) ∧
    (∀ (v0 v1 v2 v3 : Value) (o : Nat) (h : mr_h) (Q : Option Value → mr_h → Prop), mr_wp 181 353 [v0, v1, v2, v3] [.ref o] h Q = mr_rc (h.1 o) 10 (mr_run 68 [.ref o] h (fun v h' => mr_wp 181 356 [v0, v1, v2, v3] (v.toList ++ []) h' Q))) ∧
    (∀ (v0 v1 v3 : Value) (x : Nat) (st : List Value) (h : mr_h) (Q : Option Value → mr_h → Prop), mr_wp 181 356 [v0, v1, .ref x, v3] st h Q = mr_wp 181 357 [v0, v1, .ref x, v3] (.ref x :: st) h Q) ∧
    (∀ (v0 v1 v2 v3 : Value) (o : Nat) (r0 : Value) (h : mr_h) (Q : Option Value → mr_h → Prop), mr_wp 181 357 [v0, v1, v2, v3] [.ref o, r0] h Q = mr_rc (h.1 o) 11 (mr_run 159 [.ref o] h (fun v h' => mr_wp 181 360 [v0, v1, v2, v3] (v.toList ++ [r0]) h' Q))) ∧
    (∀ (v0 v1 v2 v3 : Value) (x : Int32) (y : Int32) (st : List Value) (h : mr_h) (Q : Option Value → mr_h → Prop), mr_wp 181 360 [v0, v1, v2, v3] (.int y :: .int x :: st) h Q = if x = y then mr_wp 181 843 [v0, v1, v2, v3] st h Q else mr_wp 181 363 [v0, v1, v2, v3] st h Q) ∧
    (∀ (v0 v1 v2 v3 : Value) (st : List Value) (h : mr_h) (Q : Option Value → mr_h → Prop), mr_wp 181 363 [v0, v1, v2, v3] st h Q = mr_wp 181 364 [v0, v1, v2, v3] (.int (0) :: st) h Q) ∧
    (∀ (v0 v1 v2 v3 : Value) (x : Int32) (h : mr_h) (Q : Option Value → mr_h → Prop) (hv : x &&& 1 = x), mr_wp 181 364 [v0, v1, v2, v3] [.int x] h Q = Q (some (.int x)) h) ∧
    (∀ (v0 v2 v3 : Value) (x : Nat) (st : List Value) (h : mr_h) (Q : Option Value → mr_h → Prop), mr_wp 181 365 [v0, .ref x, v2, v3] st h Q = mr_wp 181 366 [v0, .ref x, v2, v3] (.ref x :: st) h Q) ∧
    (∀ (v0 v1 v2 v3 : Value) (o : Nat) (h : mr_h) (Q : Option Value → mr_h → Prop), mr_wp 181 366 [v0, v1, v2, v3] [.ref o] h Q = mr_rc (h.1 o) 10 (mr_run 72 [.ref o] h (fun v h' => mr_wp 181 369 [v0, v1, v2, v3] (v.toList ++ []) h' Q))) ∧
    (∀ (v0 v1 v3 : Value) (x : Nat) (st : List Value) (h : mr_h) (Q : Option Value → mr_h → Prop), mr_wp 181 369 [v0, v1, .ref x, v3] st h Q = mr_wp 181 370 [v0, v1, .ref x, v3] (.ref x :: st) h Q) ∧
    (∀ (v0 v1 v2 v3 : Value) (o : Nat) (r0 : Value) (h : mr_h) (Q : Option Value → mr_h → Prop), mr_wp 181 370 [v0, v1, v2, v3] [.ref o, r0] h Q = mr_rc (h.1 o) 11 (mr_run 161 [.ref o] h (fun v h' => mr_wp 181 373 [v0, v1, v2, v3] (v.toList ++ [r0]) h' Q))) ∧
    (∀ (v0 v1 v2 v3 : Value) (x : Int32) (y : Int32) (st : List Value) (h : mr_h) (Q : Option Value → mr_h → Prop), mr_wp 181 373 [v0, v1, v2, v3] (.int y :: .int x :: st) h Q = if x = y then mr_wp 181 843 [v0, v1, v2, v3] st h Q else mr_wp 181 376 [v0, v1, v2, v3] st h Q) ∧
    (∀ (v0 v1 v2 v3 : Value) (st : List Value) (h : mr_h) (Q : Option Value → mr_h → Prop), mr_wp 181 376 [v0, v1, v2, v3] st h Q = mr_wp 181 377 [v0, v1, v2, v3] (.int (0) :: st) h Q) ∧
    (∀ (v0 v1 v2 v3 : Value) (x : Int32) (h : mr_h) (Q : Option Value → mr_h → Prop) (hv : x &&& 1 = x), mr_wp 181 377 [v0, v1, v2, v3] [.int x] h Q = Q (some (.int x)) h) ∧
    (∀ (v0 v2 v3 : Value) (x : Nat) (st : List Value) (h : mr_h) (Q : Option Value → mr_h → Prop), mr_wp 181 378 [v0, .ref x, v2, v3] st h Q = mr_wp 181 379 [v0, .ref x, v2, v3] (.ref x :: st) h Q) ∧
    (∀ (v1 v2 v3 : Value) (st : List Value) (h : mr_h) (Q : Option Value → mr_h → Prop), mr_wp 181 379 [.retAddr 0, v1, v2, v3] st h Q = mr_wp 181 380 [.retAddr 0, v1, v2, v3] (.retAddr 0 :: st) h Q) ∧
    (∀ (v0 v1 v2 : Value) (x : Int32) (st : List Value) (h : mr_h) (Q : Option Value → mr_h → Prop), mr_wp 181 380 [v0, v1, v2, .int x] st h Q = mr_wp 181 381 [v0, v1, v2, .int x] (.int x :: st) h Q) ∧
    (∀ (v0 v1 v2 v3 : Value) (st : List Value) (h : mr_h) (Q : Option Value → mr_h → Prop), mr_wp 181 381 [v0, v1, v2, v3] st h Q = mr_wp 181 382 [v0, v1, v2, v3] (.int (1) :: st) h Q) ∧
    (∀ (v0 v1 v2 v3 : Value) (x : Int32) (y : Int32) (st : List Value) (h : mr_h) (Q : Option Value → mr_h → Prop), mr_wp 181 382 [v0, v1, v2, v3] (.int y :: .int x :: st) h Q = mr_wp 181 383 [v0, v1, v2, v3] (.int (x + y) :: st) h Q) ∧
    (∀ (v0 v1 v2 v3 : Value) (x : Int32) (st : List Value) (h : mr_h) (Q : Option Value → mr_h → Prop), mr_wp 181 383 [v0, v1, v2, v3] (.int x :: .retAddr 0 :: st) h Q = if x < 0 ∨ h.2.2.2.1 ≤ x.toNatClampNeg then False else mr_wp 181 384 [v0, v1, v2, v3] (.int (h.2.2.2.2 x.toNatClampNeg) :: st) h Q) ∧
    (∀ (v1 v2 v3 : Value) (st : List Value) (h : mr_h) (Q : Option Value → mr_h → Prop), mr_wp 181 384 [.retAddr 0, v1, v2, v3] st h Q = mr_wp 181 385 [.retAddr 0, v1, v2, v3] (.retAddr 0 :: st) h Q) ∧
    (∀ (v0 v1 v2 : Value) (x : Int32) (st : List Value) (h : mr_h) (Q : Option Value → mr_h → Prop), mr_wp 181 385 [v0, v1, v2, .int x] st h Q = mr_wp 181 386 [v0, v1, v2, .int x] (.int x :: st) h Q) ∧
    (∀ (v0 v1 v2 v3 : Value) (st : List Value) (h : mr_h) (Q : Option Value → mr_h → Prop), mr_wp 181 386 [v0, v1, v2, v3] st h Q = mr_wp 181 387 [v0, v1, v2, v3] (.int (2) :: st) h Q) ∧
    (∀ (v0 v1 v2 v3 : Value) (x : Int32) (y : Int32) (st : List Value) (h : mr_h) (Q : Option Value → mr_h → Prop), mr_wp 181 387 [v0, v1, v2, v3] (.int y :: .int x :: st) h Q = mr_wp 181 388 [v0, v1, v2, v3] (.int (x + y) :: st) h Q) :=
  ⟨fun v0 v1 v2 v3 a0 a1 o h Q => gx_virt (x := 44) (n := 2) (by decide +kernel) (by decide +kernel) rfl (Or.inl (Nat.le_of_ble_eq_true rfl)) (by show _ ≤ mr_mxl 66; rw [show mr_mxl 66 = 3 from by decide +kernel]; exact Nat.le_of_ble_eq_true rfl) (by decide +kernel),
   fun v0 v1 v3 x st h Q => gx_one (i := .aload_n 2) (len := 1) (by decide +kernel) rfl,
   fun v1 v2 v3 st h Q => gx_one (i := .aload_n 0) (len := 1) (by decide +kernel) rfl,
   fun v0 v1 v2 x st h Q => gx_one (i := .iload_n 3) (len := 1) (by decide +kernel) rfl,
   fun v0 v1 v2 v3 st h Q => gx_one (i := .iconst 1) (len := 1) (by decide +kernel) rfl,
   fun v0 v1 v2 v3 x y st h Q => gx_one (i := .iadd) (len := 1) (by decide +kernel) rfl,
   fun v0 v1 v2 v3 x st h Q => gx_sald (by decide +kernel),
   fun v1 v2 v3 st h Q => gx_one (i := .aload_n 0) (len := 1) (by decide +kernel) rfl,
   fun v0 v1 v2 x st h Q => gx_one (i := .iload_n 3) (len := 1) (by decide +kernel) rfl,
   fun v0 v1 v2 v3 st h Q => gx_one (i := .iconst 2) (len := 1) (by decide +kernel) rfl,
   fun v0 v1 v2 v3 x y st h Q => gx_one (i := .iadd) (len := 1) (by decide +kernel) rfl,
   fun v0 v1 v2 v3 x st h Q => gx_sald (by decide +kernel),
   fun v0 v1 v2 v3 a0 a1 o r0 h Q => gx_virt (x := 47) (n := 2) (by decide +kernel) (by decide +kernel) rfl (Or.inl (Nat.le_of_ble_eq_true rfl)) (by show _ ≤ mr_mxl 158; rw [show mr_mxl 158 = 3 from by decide +kernel]; exact Nat.le_of_ble_eq_true rfl) (by decide +kernel),
   fun v0 v1 v2 v3 x y st h Q => gx_br (i := .if_icmp .eq 496) (len := 3) (c := .eq) (by decide +kernel) rfl rfl,
   fun v0 v1 v2 v3 st h Q => gx_one (i := .iconst 0) (len := 1) (by decide +kernel) rfl,
   fun v0 v1 v2 v3 x h Q hv => gx_ret (i := .ireturn) (len := 1) (by decide +kernel) rfl rfl (by simp only [mr_rt, if_pos]; rw [if_pos (Or.inr ⟨by decide +kernel, hv⟩)]),
   fun v0 v2 v3 x st h Q => gx_one (i := .aload_n 1) (len := 1) (by decide +kernel) rfl,
   fun v0 v1 v2 v3 o h Q => gx_virt (x := 48) (n := 0) (by decide +kernel) (by decide +kernel) rfl (Or.inl (Nat.le_of_ble_eq_true rfl)) (by show _ ≤ mr_mxl 68; rw [show mr_mxl 68 = 1 from by decide +kernel]; exact Nat.le_of_ble_eq_true rfl) (by decide +kernel),
   fun v0 v1 v3 x st h Q => gx_one (i := .aload_n 2) (len := 1) (by decide +kernel) rfl,
   fun v0 v1 v2 v3 o r0 h Q => gx_virt (x := 51) (n := 0) (by decide +kernel) (by decide +kernel) rfl (Or.inl (Nat.le_of_ble_eq_true rfl)) (by show _ ≤ mr_mxl 159; rw [show mr_mxl 159 = 4 from by decide +kernel]; exact Nat.le_of_ble_eq_true rfl) (by decide +kernel),
   fun v0 v1 v2 v3 x y st h Q => gx_br (i := .if_icmp .eq 483) (len := 3) (c := .eq) (by decide +kernel) rfl rfl,
   fun v0 v1 v2 v3 st h Q => gx_one (i := .iconst 0) (len := 1) (by decide +kernel) rfl,
   fun v0 v1 v2 v3 x h Q hv => gx_ret (i := .ireturn) (len := 1) (by decide +kernel) rfl rfl (by simp only [mr_rt, if_pos]; rw [if_pos (Or.inr ⟨by decide +kernel, hv⟩)]),
   fun v0 v2 v3 x st h Q => gx_one (i := .aload_n 1) (len := 1) (by decide +kernel) rfl,
   fun v0 v1 v2 v3 o h Q => gx_virt (x := 52) (n := 0) (by decide +kernel) (by decide +kernel) rfl (Or.inl (Nat.le_of_ble_eq_true rfl)) (by show _ ≤ mr_mxl 72; rw [show mr_mxl 72 = 1 from by decide +kernel]; exact Nat.le_of_ble_eq_true rfl) (by decide +kernel),
   fun v0 v1 v3 x st h Q => gx_one (i := .aload_n 2) (len := 1) (by decide +kernel) rfl,
   fun v0 v1 v2 v3 o r0 h Q => gx_virt (x := 55) (n := 0) (by decide +kernel) (by decide +kernel) rfl (Or.inl (Nat.le_of_ble_eq_true rfl)) (by show _ ≤ mr_mxl 161; rw [show mr_mxl 161 = 2 from by decide +kernel]; exact Nat.le_of_ble_eq_true rfl) (by decide +kernel),
   fun v0 v1 v2 v3 x y st h Q => gx_br (i := .if_icmp .eq 470) (len := 3) (c := .eq) (by decide +kernel) rfl rfl,
   fun v0 v1 v2 v3 st h Q => gx_one (i := .iconst 0) (len := 1) (by decide +kernel) rfl,
   fun v0 v1 v2 v3 x h Q hv => gx_ret (i := .ireturn) (len := 1) (by decide +kernel) rfl rfl (by simp only [mr_rt, if_pos]; rw [if_pos (Or.inr ⟨by decide +kernel, hv⟩)]),
   fun v0 v2 v3 x st h Q => gx_one (i := .aload_n 1) (len := 1) (by decide +kernel) rfl,
   fun v1 v2 v3 st h Q => gx_one (i := .aload_n 0) (len := 1) (by decide +kernel) rfl,
   fun v0 v1 v2 x st h Q => gx_one (i := .iload_n 3) (len := 1) (by decide +kernel) rfl,
   fun v0 v1 v2 v3 st h Q => gx_one (i := .iconst 1) (len := 1) (by decide +kernel) rfl,
   fun v0 v1 v2 v3 x y st h Q => gx_one (i := .iadd) (len := 1) (by decide +kernel) rfl,
   fun v0 v1 v2 v3 x st h Q => gx_sald (by decide +kernel),
   fun v1 v2 v3 st h Q => gx_one (i := .aload_n 0) (len := 1) (by decide +kernel) rfl,
   fun v0 v1 v2 x st h Q => gx_one (i := .iload_n 3) (len := 1) (by decide +kernel) rfl,
   fun v0 v1 v2 v3 st h Q => gx_one (i := .iconst 2) (len := 1) (by decide +kernel) rfl,
   fun v0 v1 v2 v3 x y st h Q => gx_one (i := .iadd) (len := 1) (by decide +kernel) rfl⟩
theorem S_law_law_5 : (∀ (v0 v1 v2 v3 : Value) (x : Int32) (st : List Value) (h : mr_h) (Q : Option Value → mr_h → Prop), mr_wp 181 388 [v0, v1, v2, v3] (.int x :: .retAddr 0 :: st) h Q = if x < 0 ∨ h.2.2.2.1 ≤ x.toNatClampNeg then False else mr_wp 181 389 [v0, v1, v2, v3] (.int (h.2.2.2.2 x.toNatClampNeg) :: st) h Q) ∧
    (∀ (v0 v1 v2 v3 : Value) (a0 : Int32) (a1 : Int32) (o : Nat) (h : mr_h) (Q : Option Value → mr_h → Prop), mr_wp 181 389 [v0, v1, v2, v3] [.int a1, .int a0, .ref o] h Q = mr_rc (h.1 o) 10 (mr_run 74 [.ref o, .int a0, .int a1] h (fun v h' => mr_wp 181 392 [v0, v1, v2, v3] (v.toList ++ []) h' Q))) ∧
    (∀ (v0 v1 v3 : Value) (x : Nat) (st : List Value) (h : mr_h) (Q : Option Value → mr_h → Prop), mr_wp 181 392 [v0, v1, .ref x, v3] st h Q = mr_wp 181 393 [v0, v1, .ref x, v3] (.ref x :: st) h Q) ∧
    (∀ (v1 v2 v3 : Value) (st : List Value) (h : mr_h) (Q : Option Value → mr_h → Prop), mr_wp 181 393 [.retAddr 0, v1, v2, v3] st h Q = mr_wp 181 394 [.retAddr 0, v1, v2, v3] (.retAddr 0 :: st) h Q) ∧
    (∀ (v0 v1 v2 : Value) (x : Int32) (st : List Value) (h : mr_h) (Q : Option Value → mr_h → Prop), mr_wp 181 394 [v0, v1, v2, .int x] st h Q = mr_wp 181 395 [v0, v1, v2, .int x] (.int x :: st) h Q) ∧
    (∀ (v0 v1 v2 v3 : Value) (st : List Value) (h : mr_h) (Q : Option Value → mr_h → Prop), mr_wp 181 395 [v0, v1, v2, v3] st h Q = mr_wp 181 396 [v0, v1, v2, v3] (.int (1) :: st) h Q) ∧
    (∀ (v0 v1 v2 v3 : Value) (x : Int32) (y : Int32) (st : List Value) (h : mr_h) (Q : Option Value → mr_h → Prop), mr_wp 181 396 [v0, v1, v2, v3] (.int y :: .int x :: st) h Q = mr_wp 181 397 [v0, v1, v2, v3] (.int (x + y) :: st) h Q) ∧
    (∀ (v0 v1 v2 v3 : Value) (x : Int32) (st : List Value) (h : mr_h) (Q : Option Value → mr_h → Prop), mr_wp 181 397 [v0, v1, v2, v3] (.int x :: .retAddr 0 :: st) h Q = if x < 0 ∨ h.2.2.2.1 ≤ x.toNatClampNeg then False else mr_wp 181 398 [v0, v1, v2, v3] (.int (h.2.2.2.2 x.toNatClampNeg) :: st) h Q) ∧
    (∀ (v1 v2 v3 : Value) (st : List Value) (h : mr_h) (Q : Option Value → mr_h → Prop), mr_wp 181 398 [.retAddr 0, v1, v2, v3] st h Q = mr_wp 181 399 [.retAddr 0, v1, v2, v3] (.retAddr 0 :: st) h Q) ∧
    (∀ (v0 v1 v2 : Value) (x : Int32) (st : List Value) (h : mr_h) (Q : Option Value → mr_h → Prop), mr_wp 181 399 [v0, v1, v2, .int x] st h Q = mr_wp 181 400 [v0, v1, v2, .int x] (.int x :: st) h Q) ∧
    (∀ (v0 v1 v2 v3 : Value) (st : List Value) (h : mr_h) (Q : Option Value → mr_h → Prop), mr_wp 181 400 [v0, v1, v2, v3] st h Q = mr_wp 181 401 [v0, v1, v2, v3] (.int (2) :: st) h Q) ∧
    (∀ (v0 v1 v2 v3 : Value) (x : Int32) (y : Int32) (st : List Value) (h : mr_h) (Q : Option Value → mr_h → Prop), mr_wp 181 401 [v0, v1, v2, v3] (.int y :: .int x :: st) h Q = mr_wp 181 402 [v0, v1, v2, v3] (.int (x + y) :: st) h Q) ∧
    (∀ (v0 v1 v2 v3 : Value) (x : Int32) (st : List Value) (h : mr_h) (Q : Option Value → mr_h → Prop), mr_wp 181 402 [v0, v1, v2, v3] (.int x :: .retAddr 0 :: st) h Q = if x < 0 ∨ h.2.2.2.1 ≤ x.toNatClampNeg then False else mr_wp 181 403 [v0, v1, v2, v3] (.int (h.2.2.2.2 x.toNatClampNeg) :: st) h Q) ∧
    (∀ (v0 v1 v2 v3 : Value) (a0 : Int32) (a1 : Int32) (o : Nat) (r0 : Value) (h : mr_h) (Q : Option Value → mr_h → Prop), mr_wp 181 403 [v0, v1, v2, v3] [.int a1, .int a0, .ref o, r0] h Q = mr_rc (h.1 o) 11 (mr_run 162 [.ref o, .int a0, .int a1] h (fun v h' => mr_wp 181 406 [v0, v1, v2, v3] (v.toList ++ [r0]) h' Q))) ∧
    (∀ (v0 v1 v2 v3 : Value) (x : Int32) (y : Int32) (st : List Value) (h : mr_h) (Q : Option Value → mr_h → Prop), mr_wp 181 406 [v0, v1, v2, v3] (.int y :: .int x :: st) h Q = if x = y then mr_wp 181 843 [v0, v1, v2, v3] st h Q else mr_wp 181 409 [v0, v1, v2, v3] st h Q) ∧
    (∀ (v0 v1 v2 v3 : Value) (st : List Value) (h : mr_h) (Q : Option Value → mr_h → Prop), mr_wp 181 409 [v0, v1, v2, v3] st h Q = mr_wp 181 410 [v0, v1, v2, v3] (.int (0) :: st) h Q) ∧
    (∀ (v0 v1 v2 v3 : Value) (x : Int32) (h : mr_h) (Q : Option Value → mr_h → Prop) (hv : x &&& 1 = x), mr_wp 181 410 [v0, v1, v2, v3] [.int x] h Q = Q (some (.int x)) h) ∧
    (∀ (v0 v2 v3 : Value) (x : Nat) (st : List Value) (h : mr_h) (Q : Option Value → mr_h → Prop), mr_wp 181 411 [v0, .ref x, v2, v3] st h Q = mr_wp 181 412 [v0, .ref x, v2, v3] (.ref x :: st) h Q) ∧
    (∀ (v1 v2 v3 : Value) (st : List Value) (h : mr_h) (Q : Option Value → mr_h → Prop), mr_wp 181 412 [.retAddr 0, v1, v2, v3] st h Q = mr_wp 181 413 [.retAddr 0, v1, v2, v3] (.retAddr 0 :: st) h Q) ∧
    (∀ (v0 v1 v2 : Value) (x : Int32) (st : List Value) (h : mr_h) (Q : Option Value → mr_h → Prop), mr_wp 181 413 [v0, v1, v2, .int x] st h Q = mr_wp 181 414 [v0, v1, v2, .int x] (.int x :: st) h Q) ∧
    (∀ (v0 v1 v2 v3 : Value) (st : List Value) (h : mr_h) (Q : Option Value → mr_h → Prop), mr_wp 181 414 [v0, v1, v2, v3] st h Q = mr_wp 181 415 [v0, v1, v2, v3] (.int (1) :: st) h Q) ∧
    (∀ (v0 v1 v2 v3 : Value) (x : Int32) (y : Int32) (st : List Value) (h : mr_h) (Q : Option Value → mr_h → Prop), mr_wp 181 415 [v0, v1, v2, v3] (.int y :: .int x :: st) h Q = mr_wp 181 416 [v0, v1, v2, v3] (.int (x + y) :: st) h Q) ∧
    (∀ (v0 v1 v2 v3 : Value) (x : Int32) (st : List Value) (h : mr_h) (Q : Option Value → mr_h → Prop), mr_wp 181 416 [v0, v1, v2, v3] (.int x :: .retAddr 0 :: st) h Q = if x < 0 ∨ h.2.2.2.1 ≤ x.toNatClampNeg then False else mr_wp 181 417 [v0, v1, v2, v3] (.int (h.2.2.2.2 x.toNatClampNeg) :: st) h Q) ∧
    (∀ (v1 v2 v3 : Value) (st : List Value) (h : mr_h) (Q : Option Value → mr_h → Prop), mr_wp 181 417 [.retAddr 0, v1, v2, v3] st h Q = mr_wp 181 418 [.retAddr 0, v1, v2, v3] (.retAddr 0 :: st) h Q) ∧
    (∀ (v0 v1 v2 : Value) (x : Int32) (st : List Value) (h : mr_h) (Q : Option Value → mr_h → Prop), mr_wp 181 418 [v0, v1, v2, .int x] st h Q = mr_wp 181 419 [v0, v1, v2, .int x] (.int x :: st) h Q) ∧
    (∀ (v0 v1 v2 v3 : Value) (st : List Value) (h : mr_h) (Q : Option Value → mr_h → Prop), mr_wp 181 419 [v0, v1, v2, v3] st h Q = mr_wp 181 420 [v0, v1, v2, v3] (.int (2) :: st) h Q) ∧
    (∀ (v0 v1 v2 v3 : Value) (x : Int32) (y : Int32) (st : List Value) (h : mr_h) (Q : Option Value → mr_h → Prop), mr_wp 181 420 [v0, v1, v2, v3] (.int y :: .int x :: st) h Q = mr_wp 181 421 [v0, v1, v2, v3] (.int (x + y) :: st) h Q) ∧
    (∀ (v0 v1 v2 v3 : Value) (x : Int32) (st : List Value) (h : mr_h) (Q : Option Value → mr_h → Prop), mr_wp 181 421 [v0, v1, v2, v3] (.int x :: .retAddr 0 :: st) h Q = if x < 0 ∨ h.2.2.2.1 ≤ x.toNatClampNeg then False else mr_wp 181 422 [v0, v1, v2, v3] (.int (h.2.2.2.2 x.toNatClampNeg) :: st) h Q) ∧
    (∀ (v0 v1 v2 v3 : Value) (a0 : Int32) (a1 : Int32) (o : Nat) (h : mr_h) (Q : Option Value → mr_h → Prop), mr_wp 181 422 [v0, v1, v2, v3] [.int a1, .int a0, .ref o] h Q = mr_rc (h.1 o) 10 (mr_run 75 [.ref o, .int a0, .int a1] h (fun v h' => mr_wp 181 425 [v0, v1, v2, v3] (v.toList ++ []) h' Q))) ∧
    (∀ (v0 v1 v3 : Value) (x : Nat) (st : List Value) (h : mr_h) (Q : Option Value → mr_h → Prop), mr_wp 181 425 [v0, v1, .ref x, v3] st h Q = mr_wp 181 426 [v0, v1, .ref x, v3] (.ref x :: st) h Q) ∧
    (∀ (v1 v2 v3 : Value) (st : List Value) (h : mr_h) (Q : Option Value → mr_h → Prop), mr_wp 181 426 [.retAddr 0, v1, v2, v3] st h Q = mr_wp 181 427 [.retAddr 0, v1, v2, v3] (.retAddr 0 :: st) h Q) ∧
    (∀ (v0 v1 v2 : Value) (x : Int32) (st : List Value) (h : mr_h) (Q : Option Value → mr_h → Prop), mr_wp 181 427 [v0, v1, v2, .int x] st h Q = mr_wp 181 428 [v0, v1, v2, .int x] (.int x :: st) h Q) ∧
    (∀ (v0 v1 v2 v3 : Value) (st : List Value) (h : mr_h) (Q : Option Value → mr_h → Prop), mr_wp 181 428 [v0, v1, v2, v3] st h Q = mr_wp 181 429 [v0, v1, v2, v3] (.int (1) :: st) h Q) ∧
    (∀ (v0 v1 v2 v3 : Value) (x : Int32) (y : Int32) (st : List Value) (h : mr_h) (Q : Option Value → mr_h → Prop), mr_wp 181 429 [v0, v1, v2, v3] (.int y :: .int x :: st) h Q = mr_wp 181 430 [v0, v1, v2, v3] (.int (x + y) :: st) h Q) ∧
    (∀ (v0 v1 v2 v3 : Value) (x : Int32) (st : List Value) (h : mr_h) (Q : Option Value → mr_h → Prop), mr_wp 181 430 [v0, v1, v2, v3] (.int x :: .retAddr 0 :: st) h Q = if x < 0 ∨ h.2.2.2.1 ≤ x.toNatClampNeg then False else mr_wp 181 431 [v0, v1, v2, v3] (.int (h.2.2.2.2 x.toNatClampNeg) :: st) h Q) ∧
    (∀ (v1 v2 v3 : Value) (st : List Value) (h : mr_h) (Q : Option Value → mr_h → Prop), mr_wp 181 431 [.retAddr 0, v1, v2, v3] st h Q = mr_wp 181 432 [.retAddr 0, v1, v2, v3] (.retAddr 0 :: st) h Q) ∧
    (∀ (v0 v1 v2 : Value) (x : Int32) (st : List Value) (h : mr_h) (Q : Option Value → mr_h → Prop), mr_wp 181 432 [v0, v1, v2, .int x] st h Q = mr_wp 181 433 [v0, v1, v2, .int x] (.int x :: st) h Q) ∧
    (∀ (v0 v1 v2 v3 : Value) (st : List Value) (h : mr_h) (Q : Option Value → mr_h → Prop), mr_wp 181 433 [v0, v1, v2, v3] st h Q = mr_wp 181 434 [v0, v1, v2, v3] (.int (2) :: st) h Q) ∧
    (∀ (v0 v1 v2 v3 : Value) (x : Int32) (y : Int32) (st : List Value) (h : mr_h) (Q : Option Value → mr_h → Prop), mr_wp 181 434 [v0, v1, v2, v3] (.int y :: .int x :: st) h Q = mr_wp 181 435 [v0, v1, v2, v3] (.int (x + y) :: st) h Q) ∧
    (∀ (v0 v1 v2 v3 : Value) (x : Int32) (st : List Value) (h : mr_h) (Q : Option Value → mr_h → Prop), mr_wp 181 435 [v0, v1, v2, v3] (.int x :: .retAddr 0 :: st) h Q = if x < 0 ∨ h.2.2.2.1 ≤ x.toNatClampNeg then False else mr_wp 181 436 [v0, v1, v2, v3] (.int (h.2.2.2.2 x.toNatClampNeg) :: st) h Q) :=
  ⟨fun v0 v1 v2 v3 x st h Q => gx_sald (by decide +kernel),
   fun v0 v1 v2 v3 a0 a1 o h Q => gx_virt (x := 56) (n := 2) (by decide +kernel) (by decide +kernel) rfl (Or.inl (Nat.le_of_ble_eq_true rfl)) (by show _ ≤ mr_mxl 74; rw [show mr_mxl 74 = 3 from by decide +kernel]; exact Nat.le_of_ble_eq_true rfl) (by decide +kernel),
   fun v0 v1 v3 x st h Q => gx_one (i := .aload_n 2) (len := 1) (by decide +kernel) rfl,
   fun v1 v2 v3 st h Q => gx_one (i := .aload_n 0) (len := 1) (by decide +kernel) rfl,
   fun v0 v1 v2 x st h Q => gx_one (i := .iload_n 3) (len := 1) (by decide +kernel) rfl,
   fun v0 v1 v2 v3 st h Q => gx_one (i := .iconst 1) (len := 1) (by decide +kernel) rfl,
   fun v0 v1 v2 v3 x y st h Q => gx_one (i := .iadd) (len := 1) (by decide +kernel) rfl,
   fun v0 v1 v2 v3 x st h Q => gx_sald (by decide +kernel),
   fun v1 v2 v3 st h Q => gx_one (i := .aload_n 0) (len := 1) (by decide +kernel) rfl,
   fun v0 v1 v2 x st h Q => gx_one (i := .iload_n 3) (len := 1) (by decide +kernel) rfl,
   fun v0 v1 v2 v3 st h Q => gx_one (i := .iconst 2) (len := 1) (by decide +kernel) rfl,
   fun v0 v1 v2 v3 x y st h Q => gx_one (i := .iadd) (len := 1) (by decide +kernel) rfl,
   fun v0 v1 v2 v3 x st h Q => gx_sald (by decide +kernel),
   fun v0 v1 v2 v3 a0 a1 o r0 h Q => gx_virt (x := 59) (n := 2) (by decide +kernel) (by decide +kernel) rfl (Or.inl (Nat.le_of_ble_eq_true rfl)) (by show _ ≤ mr_mxl 162; rw [show mr_mxl 162 = 3 from by decide +kernel]; exact Nat.le_of_ble_eq_true rfl) (by decide +kernel),
   fun v0 v1 v2 v3 x y st h Q => gx_br (i := .if_icmp .eq 437) (len := 3) (c := .eq) (by decide +kernel) rfl rfl,
   fun v0 v1 v2 v3 st h Q => gx_one (i := .iconst 0) (len := 1) (by decide +kernel) rfl,
   fun v0 v1 v2 v3 x h Q hv => gx_ret (i := .ireturn) (len := 1) (by decide +kernel) rfl rfl (by simp only [mr_rt, if_pos]; rw [if_pos (Or.inr ⟨by decide +kernel, hv⟩)]),
   fun v0 v2 v3 x st h Q => gx_one (i := .aload_n 1) (len := 1) (by decide +kernel) rfl,
   fun v1 v2 v3 st h Q => gx_one (i := .aload_n 0) (len := 1) (by decide +kernel) rfl,
   fun v0 v1 v2 x st h Q => gx_one (i := .iload_n 3) (len := 1) (by decide +kernel) rfl,
   fun v0 v1 v2 v3 st h Q => gx_one (i := .iconst 1) (len := 1) (by decide +kernel) rfl,
   fun v0 v1 v2 v3 x y st h Q => gx_one (i := .iadd) (len := 1) (by decide +kernel) rfl,
   fun v0 v1 v2 v3 x st h Q => gx_sald (by decide +kernel),
   fun v1 v2 v3 st h Q => gx_one (i := .aload_n 0) (len := 1) (by decide +kernel) rfl,
   fun v0 v1 v2 x st h Q => gx_one (i := .iload_n 3) (len := 1) (by decide +kernel) rfl,
   fun v0 v1 v2 v3 st h Q => gx_one (i := .iconst 2) (len := 1) (by decide +kernel) rfl,
   fun v0 v1 v2 v3 x y st h Q => gx_one (i := .iadd) (len := 1) (by decide +kernel) rfl,
   fun v0 v1 v2 v3 x st h Q => gx_sald (by decide +kernel),
   fun v0 v1 v2 v3 a0 a1 o h Q => gx_virt (x := 60) (n := 2) (by decide +kernel) (by decide +kernel) rfl (Or.inl (Nat.le_of_ble_eq_true rfl)) (by show _ ≤ mr_mxl 75; rw [show mr_mxl 75 = 3 from by decide +kernel]; exact Nat.le_of_ble_eq_true rfl) (by decide +kernel),
   fun v0 v1 v3 x st h Q => gx_one (i := .aload_n 2) (len := 1) (by decide +kernel) rfl,
   fun v1 v2 v3 st h Q => gx_one (i := .aload_n 0) (len := 1) (by decide +kernel) rfl,
   fun v0 v1 v2 x st h Q => gx_one (i := .iload_n 3) (len := 1) (by decide +kernel) rfl,
   fun v0 v1 v2 v3 st h Q => gx_one (i := .iconst 1) (len := 1) (by decide +kernel) rfl,
   fun v0 v1 v2 v3 x y st h Q => gx_one (i := .iadd) (len := 1) (by decide +kernel) rfl,
   fun v0 v1 v2 v3 x st h Q => gx_sald (by decide +kernel),
   fun v1 v2 v3 st h Q => gx_one (i := .aload_n 0) (len := 1) (by decide +kernel) rfl,
   fun v0 v1 v2 x st h Q => gx_one (i := .iload_n 3) (len := 1) (by decide +kernel) rfl,
   fun v0 v1 v2 v3 st h Q => gx_one (i := .iconst 2) (len := 1) (by decide +kernel) rfl,
   fun v0 v1 v2 v3 x y st h Q => gx_one (i := .iadd) (len := 1) (by decide +kernel) rfl,
   fun v0 v1 v2 v3 x st h Q => gx_sald (by decide +kernel)⟩
theorem S_law_law_6 : (∀ (v0 v1 v2 v3 : Value) (a0 : Int32) (a1 : Int32) (o : Nat) (r0 : Value) (h : mr_h) (Q : Option Value → mr_h → Prop), mr_wp 181 436 [v0, v1, v2, v3] [.int a1, .int a0, .ref o, r0] h Q = mr_rc (h.1 o) 11 (mr_run 163 [.ref o, .int a0, .int a1] h (fun v h' => mr_wp 181 439 [v0, v1, v2, v3] (v.toList ++ [r0]) h' Q))) ∧
    (∀ (v0 v1 v2 v3 : Value) (x : Int32) (y : Int32) (st : List Value) (h : mr_h) (Q : Option Value → mr_h → Prop), mr_wp 181 439 [v0, v1, v2, v3] (.int y :: .int x :: st) h Q = if x = y then mr_wp 181 843 [v0, v1, v2, v3] st h Q else mr_wp 181 442 [v0, v1, v2, v3] st h Q) ∧
    (∀ (v0 v1 v2 v3 : Value) (st : List Value) (h : mr_h) (Q : Option Value → mr_h → Prop), mr_wp 181 442 [v0, v1, v2, v3] st h Q = mr_wp 181 443 [v0, v1, v2, v3] (.int (0) :: st) h Q) ∧
    (∀ (v0 v1 v2 v3 : Value) (x : Int32) (h : mr_h) (Q : Option Value → mr_h → Prop) (hv : x &&& 1 = x), mr_wp 181 443 [v0, v1, v2, v3] [.int x] h Q = Q (some (.int x)) h) ∧
    (∀ (v0 v2 v3 : Value) (x : Nat) (st : List Value) (h : mr_h) (Q : Option Value → mr_h → Prop), mr_wp 181 444 [v0, .ref x, v2, v3] st h Q = mr_wp 181 445 [v0, .ref x, v2, v3] (.ref x :: st) h Q) ∧
    (∀ (v1 v2 v3 : Value) (st : List Value) (h : mr_h) (Q : Option Value → mr_h → Prop), mr_wp 181 445 [.retAddr 0, v1, v2, v3] st h Q = mr_wp 181 446 [.retAddr 0, v1, v2, v3] (.retAddr 0 :: st) h Q) ∧
    (∀ (v0 v1 v2 : Value) (x : Int32) (st : List Value) (h : mr_h) (Q : Option Value → mr_h → Prop), mr_wp 181 446 [v0, v1, v2, .int x] st h Q = mr_wp 181 447 [v0, v1, v2, .int x] (.int x :: st) h Q) ∧
    (∀ (v0 v1 v2 v3 : Value) (st : List Value) (h : mr_h) (Q : Option Value → mr_h → Prop), mr_wp 181 447 [v0, v1, v2, v3] st h Q = mr_wp 181 448 [v0, v1, v2, v3] (.int (1) :: st) h Q) ∧
    (∀ (v0 v1 v2 v3 : Value) (x : Int32) (y : Int32) (st : List Value) (h : mr_h) (Q : Option Value → mr_h → Prop), mr_wp 181 448 [v0, v1, v2, v3] (.int y :: .int x :: st) h Q = mr_wp 181 449 [v0, v1, v2, v3] (.int (x + y) :: st) h Q) ∧
    (∀ (v0 v1 v2 v3 : Value) (x : Int32) (st : List Value) (h : mr_h) (Q : Option Value → mr_h → Prop), mr_wp 181 449 [v0, v1, v2, v3] (.int x :: .retAddr 0 :: st) h Q = if x < 0 ∨ h.2.2.2.1 ≤ x.toNatClampNeg then False else mr_wp 181 450 [v0, v1, v2, v3] (.int (h.2.2.2.2 x.toNatClampNeg) :: st) h Q) ∧
    (∀ (v1 v2 v3 : Value) (st : List Value) (h : mr_h) (Q : Option Value → mr_h → Prop), mr_wp 181 450 [.retAddr 0, v1, v2, v3] st h Q = mr_wp 181 451 [.retAddr 0, v1, v2, v3] (.retAddr 0 :: st) h Q) ∧
    (∀ (v0 v1 v2 : Value) (x : Int32) (st : List Value) (h : mr_h) (Q : Option Value → mr_h → Prop), mr_wp 181 451 [v0, v1, v2, .int x] st h Q = mr_wp 181 452 [v0, v1, v2, .int x] (.int x :: st) h Q) ∧
    (∀ (v0 v1 v2 v3 : Value) (st : List Value) (h : mr_h) (Q : Option Value → mr_h → Prop), mr_wp 181 452 [v0, v1, v2, v3] st h Q = mr_wp 181 453 [v0, v1, v2, v3] (.int (2) :: st) h Q) ∧
    (∀ (v0 v1 v2 v3 : Value) (x : Int32) (y : Int32) (st : List Value) (h : mr_h) (Q : Option Value → mr_h → Prop), mr_wp 181 453 [v0, v1, v2, v3] (.int y :: .int x :: st) h Q = mr_wp 181 454 [v0, v1, v2, v3] (.int (x + y) :: st) h Q) ∧
    (∀ (v0 v1 v2 v3 : Value) (x : Int32) (st : List Value) (h : mr_h) (Q : Option Value → mr_h → Prop), mr_wp 181 454 [v0, v1, v2, v3] (.int x :: .retAddr 0 :: st) h Q = if x < 0 ∨ h.2.2.2.1 ≤ x.toNatClampNeg then False else mr_wp 181 455 [v0, v1, v2, v3] (.int (h.2.2.2.2 x.toNatClampNeg) :: st) h Q) ∧
    (∀ (v1 v2 v3 : Value) (st : List Value) (h : mr_h) (Q : Option Value → mr_h → Prop), mr_wp 181 455 [.retAddr 0, v1, v2, v3] st h Q = mr_wp 181 456 [.retAddr 0, v1, v2, v3] (.retAddr 0 :: st) h Q) ∧
    (∀ (v0 v1 v2 : Value) (x : Int32) (st : List Value) (h : mr_h) (Q : Option Value → mr_h → Prop), mr_wp 181 456 [v0, v1, v2, .int x] st h Q = mr_wp 181 457 [v0, v1, v2, .int x] (.int x :: st) h Q) ∧
    (∀ (v0 v1 v2 v3 : Value) (st : List Value) (h : mr_h) (Q : Option Value → mr_h → Prop), mr_wp 181 457 [v0, v1, v2, v3] st h Q = mr_wp 181 458 [v0, v1, v2, v3] (.int (3) :: st) h Q) ∧
    (∀ (v0 v1 v2 v3 : Value) (x : Int32) (y : Int32) (st : List Value) (h : mr_h) (Q : Option Value → mr_h → Prop), mr_wp 181 458 [v0, v1, v2, v3] (.int y :: .int x :: st) h Q = mr_wp 181 459 [v0, v1, v2, v3] (.int (x + y) :: st) h Q) ∧
    (∀ (v0 v1 v2 v3 : Value) (x : Int32) (st : List Value) (h : mr_h) (Q : Option Value → mr_h → Prop), mr_wp 181 459 [v0, v1, v2, v3] (.int x :: .retAddr 0 :: st) h Q = if x < 0 ∨ h.2.2.2.1 ≤ x.toNatClampNeg then False else mr_wp 181 460 [v0, v1, v2, v3] (.int (h.2.2.2.2 x.toNatClampNeg) :: st) h Q) ∧
    (∀ (v0 v1 v2 v3 : Value) (a0 : Int32) (a1 : Int32) (a2 : Int32) (o : Nat) (h : mr_h) (Q : Option Value → mr_h → Prop), mr_wp 181 460 [v0, v1, v2, v3] [.int a2, .int a1, .int a0, .ref o] h Q = mr_rc (h.1 o) 10 (mr_run 77 [.ref o, .int a0, .int a1, .int a2] h (fun v h' => mr_wp 181 463 [v0, v1, v2, v3] (v.toList ++ []) h' Q))) ∧
    (∀ (v0 v1 v3 : Value) (x : Nat) (st : List Value) (h : mr_h) (Q : Option Value → mr_h → Prop), mr_wp 181 463 [v0, v1, .ref x, v3] st h Q = mr_wp 181 464 [v0, v1, .ref x, v3] (.ref x :: st) h Q) ∧
    (∀ (v1 v2 v3 : Value) (st : List Value) (h : mr_h) (Q : Option Value → mr_h → Prop), mr_wp 181 464 [.retAddr 0, v1, v2, v3] st h Q = mr_wp 181 465 [.retAddr 0, v1, v2, v3] (.retAddr 0 :: st) h Q) ∧
    (∀ (v0 v1 v2 : Value) (x : Int32) (st : List Value) (h : mr_h) (Q : Option Value → mr_h → Prop), mr_wp 181 465 [v0, v1, v2, .int x] st h Q = mr_wp 181 466 [v0, v1, v2, .int x] (.int x :: st) h Q) ∧
    (∀ (v0 v1 v2 v3 : Value) (st : List Value) (h : mr_h) (Q : Option Value → mr_h → Prop), mr_wp 181 466 [v0, v1, v2, v3] st h Q = mr_wp 181 467 [v0, v1, v2, v3] (.int (1) :: st) h Q) ∧
    (∀ (v0 v1 v2 v3 : Value) (x : Int32) (y : Int32) (st : List Value) (h : mr_h) (Q : Option Value → mr_h → Prop), mr_wp 181 467 [v0, v1, v2, v3] (.int y :: .int x :: st) h Q = mr_wp 181 468 [v0, v1, v2, v3] (.int (x + y) :: st) h Q) ∧
    (∀ (v0 v1 v2 v3 : Value) (x : Int32) (st : List Value) (h : mr_h) (Q : Option Value → mr_h → Prop), mr_wp 181 468 [v0, v1, v2, v3] (.int x :: .retAddr 0 :: st) h Q = if x < 0 ∨ h.2.2.2.1 ≤ x.toNatClampNeg then False else mr_wp 181 469 [v0, v1, v2, v3] (.int (h.2.2.2.2 x.toNatClampNeg) :: st) h Q) ∧
    (∀ (v1 v2 v3 : Value) (st : List Value) (h : mr_h) (Q : Option Value → mr_h → Prop), mr_wp 181 469 [.retAddr 0, v1, v2, v3] st h Q = mr_wp 181 470 [.retAddr 0, v1, v2, v3] (.retAddr 0 :: st) h Q) ∧
    (∀ (v0 v1 v2 : Value) (x : Int32) (st : List Value) (h : mr_h) (Q : Option Value → mr_h → Prop), mr_wp 181 470 [v0, v1, v2, .int x] st h Q = mr_wp 181 471 [v0, v1, v2, .int x] (.int x :: st) h Q) ∧
    (∀ (v0 v1 v2 v3 : Value) (st : List Value) (h : mr_h) (Q : Option Value → mr_h → Prop), mr_wp 181 471 [v0, v1, v2, v3] st h Q = mr_wp 181 472 [v0, v1, v2, v3] (.int (2) :: st) h Q) ∧
    (∀ (v0 v1 v2 v3 : Value) (x : Int32) (y : Int32) (st : List Value) (h : mr_h) (Q : Option Value → mr_h → Prop), mr_wp 181 472 [v0, v1, v2, v3] (.int y :: .int x :: st) h Q = mr_wp 181 473 [v0, v1, v2, v3] (.int (x + y) :: st) h Q) ∧
    (∀ (v0 v1 v2 v3 : Value) (x : Int32) (st : List Value) (h : mr_h) (Q : Option Value → mr_h → Prop), mr_wp 181 473 [v0, v1, v2, v3] (.int x :: .retAddr 0 :: st) h Q = if x < 0 ∨ h.2.2.2.1 ≤ x.toNatClampNeg then False else mr_wp 181 474 [v0, v1, v2, v3] (.int (h.2.2.2.2 x.toNatClampNeg) :: st) h Q) ∧
    (∀ (v1 v2 v3 : Value) (st : List Value) (h : mr_h) (Q : Option Value → mr_h → Prop), mr_wp 181 474 [.retAddr 0, v1, v2, v3] st h Q = mr_wp 181 475 [.retAddr 0, v1, v2, v3] (.retAddr 0 :: st) h Q) ∧
    (∀ (v0 v1 v2 : Value) (x : Int32) (st : List Value) (h : mr_h) (Q : Option Value → mr_h → Prop), mr_wp 181 475 [v0, v1, v2, .int x] st h Q = mr_wp 181 476 [v0, v1, v2, .int x] (.int x :: st) h Q) ∧
    (∀ (v0 v1 v2 v3 : Value) (st : List Value) (h : mr_h) (Q : Option Value → mr_h → Prop), mr_wp 181 476 [v0, v1, v2, v3] st h Q = mr_wp 181 477 [v0, v1, v2, v3] (.int (3) :: st) h Q) ∧
    (∀ (v0 v1 v2 v3 : Value) (x : Int32) (y : Int32) (st : List Value) (h : mr_h) (Q : Option Value → mr_h → Prop), mr_wp 181 477 [v0, v1, v2, v3] (.int y :: .int x :: st) h Q = mr_wp 181 478 [v0, v1, v2, v3] (.int (x + y) :: st) h Q) ∧
    (∀ (v0 v1 v2 v3 : Value) (x : Int32) (st : List Value) (h : mr_h) (Q : Option Value → mr_h → Prop), mr_wp 181 478 [v0, v1, v2, v3] (.int x :: .retAddr 0 :: st) h Q = if x < 0 ∨ h.2.2.2.1 ≤ x.toNatClampNeg then False else mr_wp 181 479 [v0, v1, v2, v3] (.int (h.2.2.2.2 x.toNatClampNeg) :: st) h Q) ∧
    (∀ (v0 v1 v2 v3 : Value) (a0 : Int32) (a1 : Int32) (a2 : Int32) (o : Nat) (r0 : Value) (h : mr_h) (Q : Option Value → mr_h → Prop), mr_wp 181 479 [v0, v1, v2, v3] [.int a2, .int a1, .int a0, .ref o, r0] h Q = mr_rc (h.1 o) 11 (mr_run 164 [.ref o, .int a0, .int a1, .int a2] h (fun v h' => mr_wp 181 482 [v0, v1, v2, v3] (v.toList ++ [r0]) h' Q))) ∧
    (∀ (v0 v1 v2 v3 : Value) (x : Int32) (y : Int32) (st : List Value) (h : mr_h) (Q : Option Value → mr_h → Prop), mr_wp 181 482 [v0, v1, v2, v3] (.int y :: .int x :: st) h Q = if x = y then mr_wp 181 843 [v0, v1, v2, v3] st h Q else mr_wp 181 485 [v0, v1, v2, v3] st h Q) ∧
    (∀ (v0 v1 v2 v3 : Value) (st : List Value) (h : mr_h) (Q : Option Value → mr_h → Prop), mr_wp 181 485 [v0, v1, v2, v3] st h Q = mr_wp 181 486 [v0, v1, v2, v3] (.int (0) :: st) h Q) :=
  ⟨fun v0 v1 v2 v3 a0 a1 o r0 h Q => gx_virt (x := 63) (n := 2) (by decide +kernel) (by decide +kernel) rfl (Or.inl (Nat.le_of_ble_eq_true rfl)) (by show _ ≤ mr_mxl 163; rw [show mr_mxl 163 = 7 from by decide +kernel]; exact Nat.le_of_ble_eq_true rfl) (by decide +kernel),
   fun v0 v1 v2 v3 x y st h Q => gx_br (i := .if_icmp .eq 404) (len := 3) (c := .eq) (by decide +kernel) rfl rfl,
   fun v0 v1 v2 v3 st h Q => gx_one (i := .iconst 0) (len := 1) (by decide +kernel) rfl,
   fun v0 v1 v2 v3 x h Q hv => gx_ret (i := .ireturn) (len := 1) (by decide +kernel) rfl rfl (by simp only [mr_rt, if_pos]; rw [if_pos (Or.inr ⟨by decide +kernel, hv⟩)]),
   fun v0 v2 v3 x st h Q => gx_one (i := .aload_n 1) (len := 1) (by decide +kernel) rfl,
   fun v1 v2 v3 st h Q => gx_one (i := .aload_n 0) (len := 1) (by decide +kernel) rfl,
   fun v0 v1 v2 x st h Q => gx_one (i := .iload_n 3) (len := 1) (by decide +kernel) rfl,
   fun v0 v1 v2 v3 st h Q => gx_one (i := .iconst 1) (len := 1) (by decide +kernel) rfl,
   fun v0 v1 v2 v3 x y st h Q => gx_one (i := .iadd) (len := 1) (by decide +kernel) rfl,
   fun v0 v1 v2 v3 x st h Q => gx_sald (by decide +kernel),
   fun v1 v2 v3 st h Q => gx_one (i := .aload_n 0) (len := 1) (by decide +kernel) rfl,
   fun v0 v1 v2 x st h Q => gx_one (i := .iload_n 3) (len := 1) (by decide +kernel) rfl,
   fun v0 v1 v2 v3 st h Q => gx_one (i := .iconst 2) (len := 1) (by decide +kernel) rfl,
   fun v0 v1 v2 v3 x y st h Q => gx_one (i := .iadd) (len := 1) (by decide +kernel) rfl,
   fun v0 v1 v2 v3 x st h Q => gx_sald (by decide +kernel),
   fun v1 v2 v3 st h Q => gx_one (i := .aload_n 0) (len := 1) (by decide +kernel) rfl,
   fun v0 v1 v2 x st h Q => gx_one (i := .iload_n 3) (len := 1) (by decide +kernel) rfl,
   fun v0 v1 v2 v3 st h Q => gx_one (i := .iconst 3) (len := 1) (by decide +kernel) rfl,
   fun v0 v1 v2 v3 x y st h Q => gx_one (i := .iadd) (len := 1) (by decide +kernel) rfl,
   fun v0 v1 v2 v3 x st h Q => gx_sald (by decide +kernel),
   fun v0 v1 v2 v3 a0 a1 a2 o h Q => gx_virt (x := 64) (n := 3) (by decide +kernel) (by decide +kernel) rfl (Or.inl (Nat.le_of_ble_eq_true rfl)) (by show _ ≤ mr_mxl 77; rw [show mr_mxl 77 = 5 from by decide +kernel]; exact Nat.le_of_ble_eq_true rfl) (by decide +kernel),
   fun v0 v1 v3 x st h Q => gx_one (i := .aload_n 2) (len := 1) (by decide +kernel) rfl,
   fun v1 v2 v3 st h Q => gx_one (i := .aload_n 0) (len := 1) (by decide +kernel) rfl,
   fun v0 v1 v2 x st h Q => gx_one (i := .iload_n 3) (len := 1) (by decide +kernel) rfl,
   fun v0 v1 v2 v3 st h Q => gx_one (i := .iconst 1) (len := 1) (by decide +kernel) rfl,
   fun v0 v1 v2 v3 x y st h Q => gx_one (i := .iadd) (len := 1) (by decide +kernel) rfl,
   fun v0 v1 v2 v3 x st h Q => gx_sald (by decide +kernel),
   fun v1 v2 v3 st h Q => gx_one (i := .aload_n 0) (len := 1) (by decide +kernel) rfl,
   fun v0 v1 v2 x st h Q => gx_one (i := .iload_n 3) (len := 1) (by decide +kernel) rfl,
   fun v0 v1 v2 v3 st h Q => gx_one (i := .iconst 2) (len := 1) (by decide +kernel) rfl,
   fun v0 v1 v2 v3 x y st h Q => gx_one (i := .iadd) (len := 1) (by decide +kernel) rfl,
   fun v0 v1 v2 v3 x st h Q => gx_sald (by decide +kernel),
   fun v1 v2 v3 st h Q => gx_one (i := .aload_n 0) (len := 1) (by decide +kernel) rfl,
   fun v0 v1 v2 x st h Q => gx_one (i := .iload_n 3) (len := 1) (by decide +kernel) rfl,
   fun v0 v1 v2 v3 st h Q => gx_one (i := .iconst 3) (len := 1) (by decide +kernel) rfl,
   fun v0 v1 v2 v3 x y st h Q => gx_one (i := .iadd) (len := 1) (by decide +kernel) rfl,
   fun v0 v1 v2 v3 x st h Q => gx_sald (by decide +kernel),
   fun v0 v1 v2 v3 a0 a1 a2 o r0 h Q => gx_virt (x := 68) (n := 3) (by decide +kernel) (by decide +kernel) rfl (Or.inl (Nat.le_of_ble_eq_true rfl)) (by show _ ≤ mr_mxl 164; rw [show mr_mxl 164 = 7 from by decide +kernel]; exact Nat.le_of_ble_eq_true rfl) (by decide +kernel),
   fun v0 v1 v2 v3 x y st h Q => gx_br (i := .if_icmp .eq 361) (len := 3) (c := .eq) (by decide +kernel) rfl rfl,
   fun v0 v1 v2 v3 st h Q => gx_one (i := .iconst 0) (len := 1) (by decide +kernel) rfl⟩
theorem S_law_law_7 : (∀ (v0 v1 v2 v3 : Value) (x : Int32) (h : mr_h) (Q : Option Value → mr_h → Prop) (hv : x &&& 1 = x), mr_wp 181 486 [v0, v1, v2, v3] [.int x] h Q = Q (some (.int x)) h) ∧
    (∀ (v0 v2 v3 : Value) (x : Nat) (st : List Value) (h : mr_h) (Q : Option Value → mr_h → Prop), mr_wp 181 487 [v0, .ref x, v2, v3] st h Q = mr_wp 181 488 [v0, .ref x, v2, v3] (.ref x :: st) h Q) ∧
    (∀ (v1 v2 v3 : Value) (st : List Value) (h : mr_h) (Q : Option Value → mr_h → Prop), mr_wp 181 488 [.retAddr 0, v1, v2, v3] st h Q = mr_wp 181 489 [.retAddr 0, v1, v2, v3] (.retAddr 0 :: st) h Q) ∧
    (∀ (v0 v1 v2 : Value) (x : Int32) (st : List Value) (h : mr_h) (Q : Option Value → mr_h → Prop), mr_wp 181 489 [v0, v1, v2, .int x] st h Q = mr_wp 181 490 [v0, v1, v2, .int x] (.int x :: st) h Q) ∧
    (∀ (v0 v1 v2 v3 : Value) (st : List Value) (h : mr_h) (Q : Option Value → mr_h → Prop), mr_wp 181 490 [v0, v1, v2, v3] st h Q = mr_wp 181 491 [v0, v1, v2, v3] (.int (1) :: st) h Q) ∧
    (∀ (v0 v1 v2 v3 : Value) (x : Int32) (y : Int32) (st : List Value) (h : mr_h) (Q : Option Value → mr_h → Prop), mr_wp 181 491 [v0, v1, v2, v3] (.int y :: .int x :: st) h Q = mr_wp 181 492 [v0, v1, v2, v3] (.int (x + y) :: st) h Q) ∧
    (∀ (v0 v1 v2 v3 : Value) (x : Int32) (st : List Value) (h : mr_h) (Q : Option Value → mr_h → Prop), mr_wp 181 492 [v0, v1, v2, v3] (.int x :: .retAddr 0 :: st) h Q = if x < 0 ∨ h.2.2.2.1 ≤ x.toNatClampNeg then False else mr_wp 181 493 [v0, v1, v2, v3] (.int (h.2.2.2.2 x.toNatClampNeg) :: st) h Q) ∧
    (∀ (v1 v2 v3 : Value) (st : List Value) (h : mr_h) (Q : Option Value → mr_h → Prop), mr_wp 181 493 [.retAddr 0, v1, v2, v3] st h Q = mr_wp 181 494 [.retAddr 0, v1, v2, v3] (.retAddr 0 :: st) h Q) ∧
    (∀ (v0 v1 v2 : Value) (x : Int32) (st : List Value) (h : mr_h) (Q : Option Value → mr_h → Prop), mr_wp 181 494 [v0, v1, v2, .int x] st h Q = mr_wp 181 495 [v0, v1, v2, .int x] (.int x :: st) h Q) ∧
    (∀ (v0 v1 v2 v3 : Value) (st : List Value) (h : mr_h) (Q : Option Value → mr_h → Prop), mr_wp 181 495 [v0, v1, v2, v3] st h Q = mr_wp 181 496 [v0, v1, v2, v3] (.int (2) :: st) h Q) ∧
    (∀ (v0 v1 v2 v3 : Value) (x : Int32) (y : Int32) (st : List Value) (h : mr_h) (Q : Option Value → mr_h → Prop), mr_wp 181 496 [v0, v1, v2, v3] (.int y :: .int x :: st) h Q = mr_wp 181 497 [v0, v1, v2, v3] (.int (x + y) :: st) h Q) ∧
    (∀ (v0 v1 v2 v3 : Value) (x : Int32) (st : List Value) (h : mr_h) (Q : Option Value → mr_h → Prop), mr_wp 181 497 [v0, v1, v2, v3] (.int x :: .retAddr 0 :: st) h Q = if x < 0 ∨ h.2.2.2.1 ≤ x.toNatClampNeg then False else mr_wp 181 498 [v0, v1, v2, v3] (.int (h.2.2.2.2 x.toNatClampNeg) :: st) h Q) ∧
    (∀ (v1 v2 v3 : Value) (st : List Value) (h : mr_h) (Q : Option Value → mr_h → Prop), mr_wp 181 498 [.retAddr 0, v1, v2, v3] st h Q = mr_wp 181 499 [.retAddr 0, v1, v2, v3] (.retAddr 0 :: st) h Q) ∧
    (∀ (v0 v1 v2 : Value) (x : Int32) (st : List Value) (h : mr_h) (Q : Option Value → mr_h → Prop), mr_wp 181 499 [v0, v1, v2, .int x] st h Q = mr_wp 181 500 [v0, v1, v2, .int x] (.int x :: st) h Q) ∧
    (∀ (v0 v1 v2 v3 : Value) (st : List Value) (h : mr_h) (Q : Option Value → mr_h → Prop), mr_wp 181 500 [v0, v1, v2, v3] st h Q = mr_wp 181 501 [v0, v1, v2, v3] (.int (3) :: st) h Q) ∧
    (∀ (v0 v1 v2 v3 : Value) (x : Int32) (y : Int32) (st : List Value) (h : mr_h) (Q : Option Value → mr_h → Prop), mr_wp 181 501 [v0, v1, v2, v3] (.int y :: .int x :: st) h Q = mr_wp 181 502 [v0, v1, v2, v3] (.int (x + y) :: st) h Q) ∧
    (∀ (v0 v1 v2 v3 : Value) (x : Int32) (st : List Value) (h : mr_h) (Q : Option Value → mr_h → Prop), mr_wp 181 502 [v0, v1, v2, v3] (.int x :: .retAddr 0 :: st) h Q = if x < 0 ∨ h.2.2.2.1 ≤ x.toNatClampNeg then False else mr_wp 181 503 [v0, v1, v2, v3] (.int (h.2.2.2.2 x.toNatClampNeg) :: st) h Q) ∧
    (∀ (v0 v1 v2 v3 : Value) (a0 : Int32) (a1 : Int32) (a2 : Int32) (o : Nat) (h : mr_h) (Q : Option Value → mr_h → Prop), mr_wp 181 503 [v0, v1, v2, v3] [.int a2, .int a1, .int a0, .ref o] h Q = mr_rc (h.1 o) 10 (mr_run 81 [.ref o, .int a0, .int a1, .int a2] h (fun v h' => mr_wp 181 506 [v0, v1, v2, v3] (v.toList ++ []) h' Q))) ∧
    (∀ (v0 v1 v3 : Value) (x : Nat) (st : List Value) (h : mr_h) (Q : Option Value → mr_h → Prop), mr_wp 181 506 [v0, v1, .ref x, v3] st h Q = mr_wp 181 507 [v0, v1, .ref x, v3] (.ref x :: st) h Q) ∧
    (∀ (v1 v2 v3 : Value) (st : List Value) (h : mr_h) (Q : Option Value → mr_h → Prop), mr_wp 181 507 [.retAddr 0, v1, v2, v3] st h Q = mr_wp 181 508 [.retAddr 0, v1, v2, v3] (.retAddr 0 :: st) h Q) ∧
    (∀ (v0 v1 v2 : Value) (x : Int32) (st : List Value) (h : mr_h) (Q : Option Value → mr_h → Prop), mr_wp 181 508 [v0, v1, v2, .int x] st h Q = mr_wp 181 509 [v0, v1, v2, .int x] (.int x :: st) h Q) ∧
    (∀ (v0 v1 v2 v3 : Value) (st : List Value) (h : mr_h) (Q : Option Value → mr_h → Prop), mr_wp 181 509 [v0, v1, v2, v3] st h Q = mr_wp 181 510 [v0, v1, v2, v3] (.int (1) :: st) h Q) ∧
    (∀ (v0 v1 v2 v3 : Value) (x : Int32) (y : Int32) (st : List Value) (h : mr_h) (Q : Option Value → mr_h → Prop), mr_wp 181 510 [v0, v1, v2, v3] (.int y :: .int x :: st) h Q = mr_wp 181 511 [v0, v1, v2, v3] (.int (x + y) :: st) h Q) ∧
    (∀ (v0 v1 v2 v3 : Value) (x : Int32) (st : List Value) (h : mr_h) (Q : Option Value → mr_h → Prop), mr_wp 181 511 [v0, v1, v2, v3] (.int x :: .retAddr 0 :: st) h Q = if x < 0 ∨ h.2.2.2.1 ≤ x.toNatClampNeg then False else mr_wp 181 512 [v0, v1, v2, v3] (.int (h.2.2.2.2 x.toNatClampNeg) :: st) h Q) ∧
    (∀ (v1 v2 v3 : Value) (st : List Value) (h : mr_h) (Q : Option Value → mr_h → Prop), mr_wp 181 512 [.retAddr 0, v1, v2, v3] st h Q = mr_wp 181 513 [.retAddr 0, v1, v2, v3] (.retAddr 0 :: st) h Q) ∧
    (∀ (v0 v1 v2 : Value) (x : Int32) (st : List Value) (h : mr_h) (Q : Option Value → mr_h → Prop), mr_wp 181 513 [v0, v1, v2, .int x] st h Q = mr_wp 181 514 [v0, v1, v2, .int x] (.int x :: st) h Q) ∧
    (∀ (v0 v1 v2 v3 : Value) (st : List Value) (h : mr_h) (Q : Option Value → mr_h → Prop), mr_wp 181 514 [v0, v1, v2, v3] st h Q = mr_wp 181 515 [v0, v1, v2, v3] (.int (2) :: st) h Q) ∧
    (∀ (v0 v1 v2 v3 : Value) (x : Int32) (y : Int32) (st : List Value) (h : mr_h) (Q : Option Value → mr_h → Prop), mr_wp 181 515 [v0, v1, v2, v3] (.int y :: .int x :: st) h Q = mr_wp 181 516 [v0, v1, v2, v3] (.int (x + y) :: st) h Q) ∧
    (∀ (v0 v1 v2 v3 : Value) (x : Int32) (st : List Value) (h : mr_h) (Q : Option Value → mr_h → Prop), mr_wp 181 516 [v0, v1, v2, v3] (.int x :: .retAddr 0 :: st) h Q = if x < 0 ∨ h.2.2.2.1 ≤ x.toNatClampNeg then False else mr_wp 181 517 [v0, v1, v2, v3] (.int (h.2.2.2.2 x.toNatClampNeg) :: st) h Q) ∧
    (∀ (v1 v2 v3 : Value) (st : List Value) (h : mr_h) (Q : Option Value → mr_h → Prop), mr_wp 181 517 [.retAddr 0, v1, v2, v3] st h Q = mr_wp 181 518 [.retAddr 0, v1, v2, v3] (.retAddr 0 :: st) h Q) ∧
    (∀ (v0 v1 v2 : Value) (x : Int32) (st : List Value) (h : mr_h) (Q : Option Value → mr_h → Prop), mr_wp 181 518 [v0, v1, v2, .int x] st h Q = mr_wp 181 519 [v0, v1, v2, .int x] (.int x :: st) h Q) ∧
    (∀ (v0 v1 v2 v3 : Value) (st : List Value) (h : mr_h) (Q : Option Value → mr_h → Prop), mr_wp 181 519 [v0, v1, v2, v3] st h Q = mr_wp 181 520 [v0, v1, v2, v3] (.int (3) :: st) h Q) ∧
    (∀ (v0 v1 v2 v3 : Value) (x : Int32) (y : Int32) (st : List Value) (h : mr_h) (Q : Option Value → mr_h → Prop), mr_wp 181 520 [v0, v1, v2, v3] (.int y :: .int x :: st) h Q = mr_wp 181 521 [v0, v1, v2, v3] (.int (x + y) :: st) h Q) ∧
    (∀ (v0 v1 v2 v3 : Value) (x : Int32) (st : List Value) (h : mr_h) (Q : Option Value → mr_h → Prop), mr_wp 181 521 [v0, v1, v2, v3] (.int x :: .retAddr 0 :: st) h Q = if x < 0 ∨ h.2.2.2.1 ≤ x.toNatClampNeg then False else mr_wp 181 522 [v0, v1, v2, v3] (.int (h.2.2.2.2 x.toNatClampNeg) :: st) h Q) ∧
    (∀ (v0 v1 v2 v3 : Value) (a0 : Int32) (a1 : Int32) (a2 : Int32) (o : Nat) (r0 : Value) (h : mr_h) (Q : Option Value → mr_h → Prop), mr_wp 181 522 [v0, v1, v2, v3] [.int a2, .int a1, .int a0, .ref o, r0] h Q = mr_rc (h.1 o) 11 (mr_run 166 [.ref o, .int a0, .int a1, .int a2] h (fun v h' => mr_wp 181 525 [v0, v1, v2, v3] (v.toList ++ [r0]) h' Q))) ∧
    (∀ (v0 v1 v2 v3 : Value) (x : Int32) (y : Int32) (st : List Value) (h : mr_h) (Q : Option Value → mr_h → Prop), mr_wp 181 525 [v0, v1, v2, v3] (.int y :: .int x :: st) h Q = if x = y then mr_wp 181 843 [v0, v1, v2, v3] st h Q else mr_wp 181 528 [v0, v1, v2, v3] st h Q) ∧
    (∀ (v0 v1 v2 v3 : Value) (st : List Value) (h : mr_h) (Q : Option Value → mr_h → Prop), mr_wp 181 528 [v0, v1, v2, v3] st h Q = mr_wp 181 529 [v0, v1, v2, v3] (.int (0) :: st) h Q) ∧
    (∀ (v0 v1 v2 v3 : Value) (x : Int32) (h : mr_h) (Q : Option Value → mr_h → Prop) (hv : x &&& 1 = x), mr_wp 181 529 [v0, v1, v2, v3] [.int x] h Q = Q (some (.int x)) h) ∧
    (∀ (v0 v2 v3 : Value) (x : Nat) (st : List Value) (h : mr_h) (Q : Option Value → mr_h → Prop), mr_wp 181 530 [v0, .ref x, v2, v3] st h Q = mr_wp 181 531 [v0, .ref x, v2, v3] (.ref x :: st) h Q) ∧
    (∀ (v1 v2 v3 : Value) (st : List Value) (h : mr_h) (Q : Option Value → mr_h → Prop), mr_wp 181 531 [.retAddr 0, v1, v2, v3] st h Q = mr_wp 181 532 [.retAddr 0, v1, v2, v3] (.retAddr 0 :: st) h Q) :=
  ⟨fun v0 v1 v2 v3 x h Q hv => gx_ret (i := .ireturn) (len := 1) (by decide +kernel) rfl rfl (by simp only [mr_rt, if_pos]; rw [if_pos (Or.inr ⟨by decide +kernel, hv⟩)]),
   fun v0 v2 v3 x st h Q => gx_one (i := .aload_n 1) (len := 1) (by decide +kernel) rfl,
   fun v1 v2 v3 st h Q => gx_one (i := .aload_n 0) (len := 1) (by decide +kernel) rfl,
   fun v0 v1 v2 x st h Q => gx_one (i := .iload_n 3) (len := 1) (by decide +kernel) rfl,
   fun v0 v1 v2 v3 st h Q => gx_one (i := .iconst 1) (len := 1) (by decide +kernel) rfl,
   fun v0 v1 v2 v3 x y st h Q => gx_one (i := .iadd) (len := 1) (by decide +kernel) rfl,
   fun v0 v1 v2 v3 x st h Q => gx_sald (by decide +kernel),
   fun v1 v2 v3 st h Q => gx_one (i := .aload_n 0) (len := 1) (by decide +kernel) rfl,
   fun v0 v1 v2 x st h Q => gx_one (i := .iload_n 3) (len := 1) (by decide +kernel) rfl,
   fun v0 v1 v2 v3 st h Q => gx_one (i := .iconst 2) (len := 1) (by decide +kernel) rfl,
   fun v0 v1 v2 v3 x y st h Q => gx_one (i := .iadd) (len := 1) (by decide +kernel) rfl,
   fun v0 v1 v2 v3 x st h Q => gx_sald (by decide +kernel),
   fun v1 v2 v3 st h Q => gx_one (i := .aload_n 0) (len := 1) (by decide +kernel) rfl,
   fun v0 v1 v2 x st h Q => gx_one (i := .iload_n 3) (len := 1) (by decide +kernel) rfl,
   fun v0 v1 v2 v3 st h Q => gx_one (i := .iconst 3) (len := 1) (by decide +kernel) rfl,
   fun v0 v1 v2 v3 x y st h Q => gx_one (i := .iadd) (len := 1) (by decide +kernel) rfl,
   fun v0 v1 v2 v3 x st h Q => gx_sald (by decide +kernel),
   fun v0 v1 v2 v3 a0 a1 a2 o h Q => gx_virt (x := 69) (n := 3) (by decide +kernel) (by decide +kernel) rfl (Or.inl (Nat.le_of_ble_eq_true rfl)) (by show _ ≤ mr_mxl 81; rw [show mr_mxl 81 = 5 from by decide +kernel]; exact Nat.le_of_ble_eq_true rfl) (by decide +kernel),
   fun v0 v1 v3 x st h Q => gx_one (i := .aload_n 2) (len := 1) (by decide +kernel) rfl,
   fun v1 v2 v3 st h Q => gx_one (i := .aload_n 0) (len := 1) (by decide +kernel) rfl,
   fun v0 v1 v2 x st h Q => gx_one (i := .iload_n 3) (len := 1) (by decide +kernel) rfl,
   fun v0 v1 v2 v3 st h Q => gx_one (i := .iconst 1) (len := 1) (by decide +kernel) rfl,
   fun v0 v1 v2 v3 x y st h Q => gx_one (i := .iadd) (len := 1) (by decide +kernel) rfl,
   fun v0 v1 v2 v3 x st h Q => gx_sald (by decide +kernel),
   fun v1 v2 v3 st h Q => gx_one (i := .aload_n 0) (len := 1) (by decide +kernel) rfl,
   fun v0 v1 v2 x st h Q => gx_one (i := .iload_n 3) (len := 1) (by decide +kernel) rfl,
   fun v0 v1 v2 v3 st h Q => gx_one (i := .iconst 2) (len := 1) (by decide +kernel) rfl,
   fun v0 v1 v2 v3 x y st h Q => gx_one (i := .iadd) (len := 1) (by decide +kernel) rfl,
   fun v0 v1 v2 v3 x st h Q => gx_sald (by decide +kernel),
   fun v1 v2 v3 st h Q => gx_one (i := .aload_n 0) (len := 1) (by decide +kernel) rfl,
   fun v0 v1 v2 x st h Q => gx_one (i := .iload_n 3) (len := 1) (by decide +kernel) rfl,
   fun v0 v1 v2 v3 st h Q => gx_one (i := .iconst 3) (len := 1) (by decide +kernel) rfl,
   fun v0 v1 v2 v3 x y st h Q => gx_one (i := .iadd) (len := 1) (by decide +kernel) rfl,
   fun v0 v1 v2 v3 x st h Q => gx_sald (by decide +kernel),
   fun v0 v1 v2 v3 a0 a1 a2 o r0 h Q => gx_virt (x := 72) (n := 3) (by decide +kernel) (by decide +kernel) rfl (Or.inl (Nat.le_of_ble_eq_true rfl)) (by show _ ≤ mr_mxl 166; rw [show mr_mxl 166 = 6 from by decide +kernel]; exact Nat.le_of_ble_eq_true rfl) (by decide +kernel),
   fun v0 v1 v2 v3 x y st h Q => gx_br (i := .if_icmp .eq 318) (len := 3) (c := .eq) (by decide +kernel) rfl rfl,
   fun v0 v1 v2 v3 st h Q => gx_one (i := .iconst 0) (len := 1) (by decide +kernel) rfl,
   fun v0 v1 v2 v3 x h Q hv => gx_ret (i := .ireturn) (len := 1) (by decide +kernel) rfl rfl (by simp only [mr_rt, if_pos]; rw [if_pos (Or.inr ⟨by decide +kernel, hv⟩)]),
   fun v0 v2 v3 x st h Q => gx_one (i := .aload_n 1) (len := 1) (by decide +kernel) rfl,
   fun v1 v2 v3 st h Q => gx_one (i := .aload_n 0) (len := 1) (by decide +kernel) rfl⟩
theorem S_law_law_8 : (∀ (v0 v1 v2 : Value) (x : Int32) (st : List Value) (h : mr_h) (Q : Option Value → mr_h → Prop), mr_wp 181 532 [v0, v1, v2, .int x] st h Q = mr_wp 181 533 [v0, v1, v2, .int x] (.int x :: st) h Q) ∧
    (∀ (v0 v1 v2 v3 : Value) (st : List Value) (h : mr_h) (Q : Option Value → mr_h → Prop), mr_wp 181 533 [v0, v1, v2, v3] st h Q = mr_wp 181 534 [v0, v1, v2, v3] (.int (1) :: st) h Q) ∧
    (∀ (v0 v1 v2 v3 : Value) (x : Int32) (y : Int32) (st : List Value) (h : mr_h) (Q : Option Value → mr_h → Prop), mr_wp 181 534 [v0, v1, v2, v3] (.int y :: .int x :: st) h Q = mr_wp 181 535 [v0, v1, v2, v3] (.int (x + y) :: st) h Q) ∧
    (∀ (v0 v1 v2 v3 : Value) (x : Int32) (st : List Value) (h : mr_h) (Q : Option Value → mr_h → Prop), mr_wp 181 535 [v0, v1, v2, v3] (.int x :: .retAddr 0 :: st) h Q = if x < 0 ∨ h.2.2.2.1 ≤ x.toNatClampNeg then False else mr_wp 181 536 [v0, v1, v2, v3] (.int (h.2.2.2.2 x.toNatClampNeg) :: st) h Q) ∧
    (∀ (v1 v2 v3 : Value) (st : List Value) (h : mr_h) (Q : Option Value → mr_h → Prop), mr_wp 181 536 [.retAddr 0, v1, v2, v3] st h Q = mr_wp 181 537 [.retAddr 0, v1, v2, v3] (.retAddr 0 :: st) h Q) ∧
    (∀ (v0 v1 v2 : Value) (x : Int32) (st : List Value) (h : mr_h) (Q : Option Value → mr_h → Prop), mr_wp 181 537 [v0, v1, v2, .int x] st h Q = mr_wp 181 538 [v0, v1, v2, .int x] (.int x :: st) h Q) ∧
    (∀ (v0 v1 v2 v3 : Value) (st : List Value) (h : mr_h) (Q : Option Value → mr_h → Prop), mr_wp 181 538 [v0, v1, v2, v3] st h Q = mr_wp 181 539 [v0, v1, v2, v3] (.int (2) :: st) h Q) ∧
    (∀ (v0 v1 v2 v3 : Value) (x : Int32) (y : Int32) (st : List Value) (h : mr_h) (Q : Option Value → mr_h → Prop), mr_wp 181 539 [v0, v1, v2, v3] (.int y :: .int x :: st) h Q = mr_wp 181 540 [v0, v1, v2, v3] (.int (x + y) :: st) h Q) ∧
    (∀ (v0 v1 v2 v3 : Value) (x : Int32) (st : List Value) (h : mr_h) (Q : Option Value → mr_h → Prop), mr_wp 181 540 [v0, v1, v2, v3] (.int x :: .retAddr 0 :: st) h Q = if x < 0 ∨ h.2.2.2.1 ≤ x.toNatClampNeg then False else mr_wp 181 541 [v0, v1, v2, v3] (.int (h.2.2.2.2 x.toNatClampNeg) :: st) h Q) ∧
    (∀ (v1 v2 v3 : Value) (st : List Value) (h : mr_h) (Q : Option Value → mr_h → Prop), mr_wp 181 541 [.retAddr 0, v1, v2, v3] st h Q = mr_wp 181 542 [.retAddr 0, v1, v2, v3] (.retAddr 0 :: st) h Q) ∧
    (∀ (v0 v1 v2 : Value) (x : Int32) (st : List Value) (h : mr_h) (Q : Option Value → mr_h → Prop), mr_wp 181 542 [v0, v1, v2, .int x] st h Q = mr_wp 181 543 [v0, v1, v2, .int x] (.int x :: st) h Q) ∧
    (∀ (v0 v1 v2 v3 : Value) (st : List Value) (h : mr_h) (Q : Option Value → mr_h → Prop), mr_wp 181 543 [v0, v1, v2, v3] st h Q = mr_wp 181 544 [v0, v1, v2, v3] (.int (3) :: st) h Q) ∧
    (∀ (v0 v1 v2 v3 : Value) (x : Int32) (y : Int32) (st : List Value) (h : mr_h) (Q : Option Value → mr_h → Prop), mr_wp 181 544 [v0, v1, v2, v3] (.int y :: .int x :: st) h Q = mr_wp 181 545 [v0, v1, v2, v3] (.int (x + y) :: st) h Q) ∧
    (∀ (v0 v1 v2 v3 : Value) (x : Int32) (st : List Value) (h : mr_h) (Q : Option Value → mr_h → Prop), mr_wp 181 545 [v0, v1, v2, v3] (.int x :: .retAddr 0 :: st) h Q = if x < 0 ∨ h.2.2.2.1 ≤ x.toNatClampNeg then False else mr_wp 181 546 [v0, v1, v2, v3] (.int (h.2.2.2.2 x.toNatClampNeg) :: st) h Q) ∧
    (∀ (v0 v1 v2 v3 : Value) (a0 : Int32) (a1 : Int32) (a2 : Int32) (o : Nat) (h : mr_h) (Q : Option Value → mr_h → Prop), mr_wp 181 546 [v0, v1, v2, v3] [.int a2, .int a1, .int a0, .ref o] h Q = mr_rc (h.1 o) 10 (mr_run 84 [.ref o, .int a0, .int a1, .int a2] h (fun v h' => mr_wp 181 549 [v0, v1, v2, v3] (v.toList ++ []) h' Q))) ∧
    (∀ (v0 v1 v3 : Value) (x : Nat) (st : List Value) (h : mr_h) (Q : Option Value → mr_h → Prop), mr_wp 181 549 [v0, v1, .ref x, v3] st h Q = mr_wp 181 550 [v0, v1, .ref x, v3] (.ref x :: st) h Q) ∧
    (∀ (v1 v2 v3 : Value) (st : List Value) (h : mr_h) (Q : Option Value → mr_h → Prop), mr_wp 181 550 [.retAddr 0, v1, v2, v3] st h Q = mr_wp 181 551 [.retAddr 0, v1, v2, v3] (.retAddr 0 :: st) h Q) ∧
    (∀ (v0 v1 v2 : Value) (x : Int32) (st : List Value) (h : mr_h) (Q : Option Value → mr_h → Prop), mr_wp 181 551 [v0, v1, v2, .int x] st h Q = mr_wp 181 552 [v0, v1, v2, .int x] (.int x :: st) h Q) ∧
    (∀ (v0 v1 v2 v3 : Value) (st : List Value) (h : mr_h) (Q : Option Value → mr_h → Prop), mr_wp 181 552 [v0, v1, v2, v3] st h Q = mr_wp 181 553 [v0, v1, v2, v3] (.int (1) :: st) h Q) ∧
    (∀ (v0 v1 v2 v3 : Value) (x : Int32) (y : Int32) (st : List Value) (h : mr_h) (Q : Option Value → mr_h → Prop), mr_wp 181 553 [v0, v1, v2, v3] (.int y :: .int x :: st) h Q = mr_wp 181 554 [v0, v1, v2, v3] (.int (x + y) :: st) h Q) ∧
    (∀ (v0 v1 v2 v3 : Value) (x : Int32) (st : List Value) (h : mr_h) (Q : Option Value → mr_h → Prop), mr_wp 181 554 [v0, v1, v2, v3] (.int x :: .retAddr 0 :: st) h Q = if x < 0 ∨ h.2.2.2.1 ≤ x.toNatClampNeg then False else mr_wp 181 555 [v0, v1, v2, v3] (.int (h.2.2.2.2 x.toNatClampNeg) :: st) h Q) ∧
    (∀ (v1 v2 v3 : Value) (st : List Value) (h : mr_h) (Q : Option Value → mr_h → Prop), mr_wp 181 555 [.retAddr 0, v1, v2, v3] st h Q = mr_wp 181 556 [.retAddr 0, v1, v2, v3] (.retAddr 0 :: st) h Q) ∧
    (∀ (v0 v1 v2 : Value) (x : Int32) (st : List Value) (h : mr_h) (Q : Option Value → mr_h → Prop), mr_wp 181 556 [v0, v1, v2, .int x] st h Q = mr_wp 181 557 [v0, v1, v2, .int x] (.int x :: st) h Q) ∧
    (∀ (v0 v1 v2 v3 : Value) (st : List Value) (h : mr_h) (Q : Option Value → mr_h → Prop), mr_wp 181 557 [v0, v1, v2, v3] st h Q = mr_wp 181 558 [v0, v1, v2, v3] (.int (2) :: st) h Q) ∧
    (∀ (v0 v1 v2 v3 : Value) (x : Int32) (y : Int32) (st : List Value) (h : mr_h) (Q : Option Value → mr_h → Prop), mr_wp 181 558 [v0, v1, v2, v3] (.int y :: .int x :: st) h Q = mr_wp 181 559 [v0, v1, v2, v3] (.int (x + y) :: st) h Q) ∧
    (∀ (v0 v1 v2 v3 : Value) (x : Int32) (st : List Value) (h : mr_h) (Q : Option Value → mr_h → Prop), mr_wp 181 559 [v0, v1, v2, v3] (.int x :: .retAddr 0 :: st) h Q = if x < 0 ∨ h.2.2.2.1 ≤ x.toNatClampNeg then False else mr_wp 181 560 [v0, v1, v2, v3] (.int (h.2.2.2.2 x.toNatClampNeg) :: st) h Q) ∧
    (∀ (v1 v2 v3 : Value) (st : List Value) (h : mr_h) (Q : Option Value → mr_h → Prop), mr_wp 181 560 [.retAddr 0, v1, v2, v3] st h Q = mr_wp 181 561 [.retAddr 0, v1, v2, v3] (.retAddr 0 :: st) h Q) ∧
    (∀ (v0 v1 v2 : Value) (x : Int32) (st : List Value) (h : mr_h) (Q : Option Value → mr_h → Prop), mr_wp 181 561 [v0, v1, v2, .int x] st h Q = mr_wp 181 562 [v0, v1, v2, .int x] (.int x :: st) h Q) ∧
    (∀ (v0 v1 v2 v3 : Value) (st : List Value) (h : mr_h) (Q : Option Value → mr_h → Prop), mr_wp 181 562 [v0, v1, v2, v3] st h Q = mr_wp 181 563 [v0, v1, v2, v3] (.int (3) :: st) h Q) ∧
    (∀ (v0 v1 v2 v3 : Value) (x : Int32) (y : Int32) (st : List Value) (h : mr_h) (Q : Option Value → mr_h → Prop), mr_wp 181 563 [v0, v1, v2, v3] (.int y :: .int x :: st) h Q = mr_wp 181 564 [v0, v1, v2, v3] (.int (x + y) :: st) h Q) ∧
    (∀ (v0 v1 v2 v3 : Value) (x : Int32) (st : List Value) (h : mr_h) (Q : Option Value → mr_h → Prop), mr_wp 181 564 [v0, v1, v2, v3] (.int x :: .retAddr 0 :: st) h Q = if x < 0 ∨ h.2.2.2.1 ≤ x.toNatClampNeg then False else mr_wp 181 565 [v0, v1, v2, v3] (.int (h.2.2.2.2 x.toNatClampNeg) :: st) h Q) ∧
    (∀ (v0 v1 v2 v3 : Value) (a0 : Int32) (a1 : Int32) (a2 : Int32) (o : Nat) (r0 : Value) (h : mr_h) (Q : Option Value → mr_h → Prop), mr_wp 181 565 [v0, v1, v2, v3] [.int a2, .int a1, .int a0, .ref o, r0] h Q = mr_rc (h.1 o) 11 (mr_run 167 [.ref o, .int a0, .int a1, .int a2] h (fun v h' => mr_wp 181 568 [v0, v1, v2, v3] (v.toList ++ [r0]) h' Q))) ∧
    (∀ (v0 v1 v2 v3 : Value) (x : Int32) (y : Int32) (st : List Value) (h : mr_h) (Q : Option Value → mr_h → Prop), mr_wp 181 568 [v0, v1, v2, v3] (.int y :: .int x :: st) h Q = if x = y then mr_wp 181 843 [v0, v1, v2, v3] st h Q else mr_wp 181 571 [v0, v1, v2, v3] st h Q) ∧
    (∀ (v0 v1 v2 v3 : Value) (st : List Value) (h : mr_h) (Q : Option Value → mr_h → Prop), mr_wp 181 571 [v0, v1, v2, v3] st h Q = mr_wp 181 572 [v0, v1, v2, v3] (.int (0) :: st) h Q) ∧
    (∀ (v0 v1 v2 v3 : Value) (x : Int32) (h : mr_h) (Q : Option Value → mr_h → Prop) (hv : x &&& 1 = x), mr_wp 181 572 [v0, v1, v2, v3] [.int x] h Q = Q (some (.int x)) h) ∧
    (∀ (v0 v2 v3 : Value) (x : Nat) (st : List Value) (h : mr_h) (Q : Option Value → mr_h → Prop), mr_wp 181 573 [v0, .ref x, v2, v3] st h Q = mr_wp 181 574 [v0, .ref x, v2, v3] (.ref x :: st) h Q) ∧
    (∀ (v1 v2 v3 : Value) (st : List Value) (h : mr_h) (Q : Option Value → mr_h → Prop), mr_wp 181 574 [.retAddr 0, v1, v2, v3] st h Q = mr_wp 181 575 [.retAddr 0, v1, v2, v3] (.retAddr 0 :: st) h Q) ∧
    (∀ (v0 v1 v2 : Value) (x : Int32) (st : List Value) (h : mr_h) (Q : Option Value → mr_h → Prop), mr_wp 181 575 [v0, v1, v2, .int x] st h Q = mr_wp 181 576 [v0, v1, v2, .int x] (.int x :: st) h Q) ∧
    (∀ (v0 v1 v2 v3 : Value) (st : List Value) (h : mr_h) (Q : Option Value → mr_h → Prop), mr_wp 181 576 [v0, v1, v2, v3] st h Q = mr_wp 181 577 [v0, v1, v2, v3] (.int (1) :: st) h Q) ∧
    (∀ (v0 v1 v2 v3 : Value) (x : Int32) (y : Int32) (st : List Value) (h : mr_h) (Q : Option Value → mr_h → Prop), mr_wp 181 577 [v0, v1, v2, v3] (.int y :: .int x :: st) h Q = mr_wp 181 578 [v0, v1, v2, v3] (.int (x + y) :: st) h Q) :=
  ⟨fun v0 v1 v2 x st h Q => gx_one (i := .iload_n 3) (len := 1) (by decide +kernel) rfl,
   fun v0 v1 v2 v3 st h Q => gx_one (i := .iconst 1) (len := 1) (by decide +kernel) rfl,
   fun v0 v1 v2 v3 x y st h Q => gx_one (i := .iadd) (len := 1) (by decide +kernel) rfl,
   fun v0 v1 v2 v3 x st h Q => gx_sald (by decide +kernel),
   fun v1 v2 v3 st h Q => gx_one (i := .aload_n 0) (len := 1) (by decide +kernel) rfl,
   fun v0 v1 v2 x st h Q => gx_one (i := .iload_n 3) (len := 1) (by decide +kernel) rfl,
   fun v0 v1 v2 v3 st h Q => gx_one (i := .iconst 2) (len := 1) (by decide +kernel) rfl,
   fun v0 v1 v2 v3 x y st h Q => gx_one (i := .iadd) (len := 1) (by decide +kernel) rfl,
   fun v0 v1 v2 v3 x st h Q => gx_sald (by decide +kernel),
   fun v1 v2 v3 st h Q => gx_one (i := .aload_n 0) (len := 1) (by decide +kernel) rfl,
   fun v0 v1 v2 x st h Q => gx_one (i := .iload_n 3) (len := 1) (by decide +kernel) rfl,
   fun v0 v1 v2 v3 st h Q => gx_one (i := .iconst 3) (len := 1) (by decide +kernel) rfl,
   fun v0 v1 v2 v3 x y st h Q => gx_one (i := .iadd) (len := 1) (by decide +kernel) rfl,
   fun v0 v1 v2 v3 x st h Q => gx_sald (by decide +kernel),
   fun v0 v1 v2 v3 a0 a1 a2 o h Q => gx_virt (x := 73) (n := 3) (by decide +kernel) (by decide +kernel) rfl (Or.inl (Nat.le_of_ble_eq_true rfl)) (by show _ ≤ mr_mxl 84; rw [show mr_mxl 84 = 4 from by decide +kernel]; exact Nat.le_of_ble_eq_true rfl) (by decide +kernel),
   fun v0 v1 v3 x st h Q => gx_one (i := .aload_n 2) (len := 1) (by decide +kernel) rfl,
   fun v1 v2 v3 st h Q => gx_one (i := .aload_n 0) (len := 1) (by decide +kernel) rfl,
   fun v0 v1 v2 x st h Q => gx_one (i := .iload_n 3) (len := 1) (by decide +kernel) rfl,
   fun v0 v1 v2 v3 st h Q => gx_one (i := .iconst 1) (len := 1) (by decide +kernel) rfl,
   fun v0 v1 v2 v3 x y st h Q => gx_one (i := .iadd) (len := 1) (by decide +kernel) rfl,
   fun v0 v1 v2 v3 x st h Q => gx_sald (by decide +kernel),
   fun v1 v2 v3 st h Q => gx_one (i := .aload_n 0) (len := 1) (by decide +kernel) rfl,
   fun v0 v1 v2 x st h Q => gx_one (i := .iload_n 3) (len := 1) (by decide +kernel) rfl,
   fun v0 v1 v2 v3 st h Q => gx_one (i := .iconst 2) (len := 1) (by decide +kernel) rfl,
   fun v0 v1 v2 v3 x y st h Q => gx_one (i := .iadd) (len := 1) (by decide +kernel) rfl,
   fun v0 v1 v2 v3 x st h Q => gx_sald (by decide +kernel),
   fun v1 v2 v3 st h Q => gx_one (i := .aload_n 0) (len := 1) (by decide +kernel) rfl,
   fun v0 v1 v2 x st h Q => gx_one (i := .iload_n 3) (len := 1) (by decide +kernel) rfl,
   fun v0 v1 v2 v3 st h Q => gx_one (i := .iconst 3) (len := 1) (by decide +kernel) rfl,
   fun v0 v1 v2 v3 x y st h Q => gx_one (i := .iadd) (len := 1) (by decide +kernel) rfl,
   fun v0 v1 v2 v3 x st h Q => gx_sald (by decide +kernel),
   fun v0 v1 v2 v3 a0 a1 a2 o r0 h Q => gx_virt (x := 76) (n := 3) (by decide +kernel) (by decide +kernel) rfl (Or.inl (Nat.le_of_ble_eq_true rfl)) (by show _ ≤ mr_mxl 167; rw [show mr_mxl 167 = 5 from by decide +kernel]; exact Nat.le_of_ble_eq_true rfl) (by decide +kernel),
   fun v0 v1 v2 v3 x y st h Q => gx_br (i := .if_icmp .eq 275) (len := 3) (c := .eq) (by decide +kernel) rfl rfl,
   fun v0 v1 v2 v3 st h Q => gx_one (i := .iconst 0) (len := 1) (by decide +kernel) rfl,
   fun v0 v1 v2 v3 x h Q hv => gx_ret (i := .ireturn) (len := 1) (by decide +kernel) rfl rfl (by simp only [mr_rt, if_pos]; rw [if_pos (Or.inr ⟨by decide +kernel, hv⟩)]),
   fun v0 v2 v3 x st h Q => gx_one (i := .aload_n 1) (len := 1) (by decide +kernel) rfl,
   fun v1 v2 v3 st h Q => gx_one (i := .aload_n 0) (len := 1) (by decide +kernel) rfl,
   fun v0 v1 v2 x st h Q => gx_one (i := .iload_n 3) (len := 1) (by decide +kernel) rfl,
   fun v0 v1 v2 v3 st h Q => gx_one (i := .iconst 1) (len := 1) (by decide +kernel) rfl,
   fun v0 v1 v2 v3 x y st h Q => gx_one (i := .iadd) (len := 1) (by decide +kernel) rfl⟩
theorem S_law_law_9 : (∀ (v0 v1 v2 v3 : Value) (x : Int32) (st : List Value) (h : mr_h) (Q : Option Value → mr_h → Prop), mr_wp 181 578 [v0, v1, v2, v3] (.int x :: .retAddr 0 :: st) h Q = if x < 0 ∨ h.2.2.2.1 ≤ x.toNatClampNeg then False else mr_wp 181 579 [v0, v1, v2, v3] (.int (h.2.2.2.2 x.toNatClampNeg) :: st) h Q) ∧
    (∀ (v1 v2 v3 : Value) (st : List Value) (h : mr_h) (Q : Option Value → mr_h → Prop), mr_wp 181 579 [.retAddr 0, v1, v2, v3] st h Q = mr_wp 181 580 [.retAddr 0, v1, v2, v3] (.retAddr 0 :: st) h Q) ∧
    (∀ (v0 v1 v2 : Value) (x : Int32) (st : List Value) (h : mr_h) (Q : Option Value → mr_h → Prop), mr_wp 181 580 [v0, v1, v2, .int x] st h Q = mr_wp 181 581 [v0, v1, v2, .int x] (.int x :: st) h Q) ∧
    (∀ (v0 v1 v2 v3 : Value) (st : List Value) (h : mr_h) (Q : Option Value → mr_h → Prop), mr_wp 181 581 [v0, v1, v2, v3] st h Q = mr_wp 181 582 [v0, v1, v2, v3] (.int (2) :: st) h Q) ∧
    (∀ (v0 v1 v2 v3 : Value) (x : Int32) (y : Int32) (st : List Value) (h : mr_h) (Q : Option Value → mr_h → Prop), mr_wp 181 582 [v0, v1, v2, v3] (.int y :: .int x :: st) h Q = mr_wp 181 583 [v0, v1, v2, v3] (.int (x + y) :: st) h Q) ∧
    (∀ (v0 v1 v2 v3 : Value) (x : Int32) (st : List Value) (h : mr_h) (Q : Option Value → mr_h → Prop), mr_wp 181 583 [v0, v1, v2, v3] (.int x :: .retAddr 0 :: st) h Q = if x < 0 ∨ h.2.2.2.1 ≤ x.toNatClampNeg then False else mr_wp 181 584 [v0, v1, v2, v3] (.int (h.2.2.2.2 x.toNatClampNeg) :: st) h Q) ∧
    (∀ (v0 v1 v2 v3 : Value) (a0 : Int32) (a1 : Int32) (o : Nat) (h : mr_h) (Q : Option Value → mr_h → Prop), mr_wp 181 584 [v0, v1, v2, v3] [.int a1, .int a0, .ref o] h Q = mr_rc (h.1 o) 10 (mr_run 86 [.ref o, .int a0, .int a1] h (fun v h' => mr_wp 181 587 [v0, v1, v2, v3] (v.toList ++ []) h' Q))) ∧
    (∀ (v0 v1 v3 : Value) (x : Nat) (st : List Value) (h : mr_h) (Q : Option Value → mr_h → Prop), mr_wp 181 587 [v0, v1, .ref x, v3] st h Q = mr_wp 181 588 [v0, v1, .ref x, v3] (.ref x :: st) h Q) ∧
    (∀ (v1 v2 v3 : Value) (st : List Value) (h : mr_h) (Q : Option Value → mr_h → Prop), mr_wp 181 588 [.retAddr 0, v1, v2, v3] st h Q = mr_wp 181 589 [.retAddr 0, v1, v2, v3] (.retAddr 0 :: st) h Q) ∧
    (∀ (v0 v1 v2 : Value) (x : Int32) (st : List Value) (h : mr_h) (Q : Option Value → mr_h → Prop), mr_wp 181 589 [v0, v1, v2, .int x] st h Q = mr_wp 181 590 [v0, v1, v2, .int x] (.int x :: st) h Q) ∧
    (∀ (v0 v1 v2 v3 : Value) (st : List Value) (h : mr_h) (Q : Option Value → mr_h → Prop), mr_wp 181 590 [v0, v1, v2, v3] st h Q = mr_wp 181 591 [v0, v1, v2, v3] (.int (1) :: st) h Q) ∧
    (∀ (v0 v1 v2 v3 : Value) (x : Int32) (y : Int32) (st : List Value) (h : mr_h) (Q : Option Value → mr_h → Prop), mr_wp 181 591 [v0, v1, v2, v3] (.int y :: .int x :: st) h Q = mr_wp 181 592 [v0, v1, v2, v3] (.int (x + y) :: st) h Q) ∧
    (∀ (v0 v1 v2 v3 : Value) (x : Int32) (st : List Value) (h : mr_h) (Q : Option Value → mr_h → Prop), mr_wp 181 592 [v0, v1, v2, v3] (.int x :: .retAddr 0 :: st) h Q = if x < 0 ∨ h.2.2.2.1 ≤ x.toNatClampNeg then False else mr_wp 181 593 [v0, v1, v2, v3] (.int (h.2.2.2.2 x.toNatClampNeg) :: st) h Q) ∧
    (∀ (v1 v2 v3 : Value) (st : List Value) (h : mr_h) (Q : Option Value → mr_h → Prop), mr_wp 181 593 [.retAddr 0, v1, v2, v3] st h Q = mr_wp 181 594 [.retAddr 0, v1, v2, v3] (.retAddr 0 :: st) h Q) ∧
    (∀ (v0 v1 v2 : Value) (x : Int32) (st : List Value) (h : mr_h) (Q : Option Value → mr_h → Prop), mr_wp 181 594 [v0, v1, v2, .int x] st h Q = mr_wp 181 595 [v0, v1, v2, .int x] (.int x :: st) h Q) ∧
    (∀ (v0 v1 v2 v3 : Value) (st : List Value) (h : mr_h) (Q : Option Value → mr_h → Prop), mr_wp 181 595 [v0, v1, v2, v3] st h Q = mr_wp 181 596 [v0, v1, v2, v3] (.int (2) :: st) h Q) ∧
    (∀ (v0 v1 v2 v3 : Value) (x : Int32) (y : Int32) (st : List Value) (h : mr_h) (Q : Option Value → mr_h → Prop), mr_wp 181 596 [v0, v1, v2, v3] (.int y :: .int x :: st) h Q = mr_wp 181 597 [v0, v1, v2, v3] (.int (x + y) :: st) h Q) ∧
    (∀ (v0 v1 v2 v3 : Value) (x : Int32) (st : List Value) (h : mr_h) (Q : Option Value → mr_h → Prop), mr_wp 181 597 [v0, v1, v2, v3] (.int x :: .retAddr 0 :: st) h Q = if x < 0 ∨ h.2.2.2.1 ≤ x.toNatClampNeg then False else mr_wp 181 598 [v0, v1, v2, v3] (.int (h.2.2.2.2 x.toNatClampNeg) :: st) h Q) ∧
    (∀ (v0 v1 v2 v3 : Value) (a0 : Int32) (a1 : Int32) (o : Nat) (r0 : Value) (h : mr_h) (Q : Option Value → mr_h → Prop), mr_wp 181 598 [v0, v1, v2, v3] [.int a1, .int a0, .ref o, r0] h Q = mr_rc (h.1 o) 11 (mr_run 168 [.ref o, .int a0, .int a1] h (fun v h' => mr_wp 181 601 [v0, v1, v2, v3] (v.toList ++ [r0]) h' Q))) ∧
    (∀ (v0 v1 v2 v3 : Value) (x : Int32) (y : Int32) (st : List Value) (h : mr_h) (Q : Option Value → mr_h → Prop), mr_wp 181 601 [v0, v1, v2, v3] (.int y :: .int x :: st) h Q = if x = y then mr_wp 181 843 [v0, v1, v2, v3] st h Q else mr_wp 181 604 [v0, v1, v2, v3] st h Q) ∧
    (∀ (v0 v1 v2 v3 : Value) (st : List Value) (h : mr_h) (Q : Option Value → mr_h → Prop), mr_wp 181 604 [v0, v1, v2, v3] st h Q = mr_wp 181 605 [v0, v1, v2, v3] (.int (0) :: st) h Q) ∧
    (∀ (v0 v1 v2 v3 : Value) (x : Int32) (h : mr_h) (Q : Option Value → mr_h → Prop) (hv : x &&& 1 = x), mr_wp 181 605 [v0, v1, v2, v3] [.int x] h Q = Q (some (.int x)) h) ∧
    (∀ (v0 v2 v3 : Value) (x : Nat) (st : List Value) (h : mr_h) (Q : Option Value → mr_h → Prop), mr_wp 181 606 [v0, .ref x, v2, v3] st h Q = mr_wp 181 607 [v0, .ref x, v2, v3] (.ref x :: st) h Q) ∧
    (∀ (v1 v2 v3 : Value) (st : List Value) (h : mr_h) (Q : Option Value → mr_h → Prop), mr_wp 181 607 [.retAddr 0, v1, v2, v3] st h Q = mr_wp 181 608 [.retAddr 0, v1, v2, v3] (.retAddr 0 :: st) h Q) ∧
    (∀ (v0 v1 v2 : Value) (x : Int32) (st : List Value) (h : mr_h) (Q : Option Value → mr_h → Prop), mr_wp 181 608 [v0, v1, v2, .int x] st h Q = mr_wp 181 609 [v0, v1, v2, .int x] (.int x :: st) h Q) ∧
    (∀ (v0 v1 v2 v3 : Value) (st : List Value) (h : mr_h) (Q : Option Value → mr_h → Prop), mr_wp 181 609 [v0, v1, v2, v3] st h Q = mr_wp 181 610 [v0, v1, v2, v3] (.int (1) :: st) h Q) ∧
    (∀ (v0 v1 v2 v3 : Value) (x : Int32) (y : Int32) (st : List Value) (h : mr_h) (Q : Option Value → mr_h → Prop), mr_wp 181 610 [v0, v1, v2, v3] (.int y :: .int x :: st) h Q = mr_wp 181 611 [v0, v1, v2, v3] (.int (x + y) :: st) h Q) ∧
    (∀ (v0 v1 v2 v3 : Value) (x : Int32) (st : List Value) (h : mr_h) (Q : Option Value → mr_h → Prop), mr_wp 181 611 [v0, v1, v2, v3] (.int x :: .retAddr 0 :: st) h Q = if x < 0 ∨ h.2.2.2.1 ≤ x.toNatClampNeg then False else mr_wp 181 612 [v0, v1, v2, v3] (.int (h.2.2.2.2 x.toNatClampNeg) :: st) h Q) ∧
    (∀ (v0 v1 v2 v3 : Value) (a0 : Int32) (o : Nat) (h : mr_h) (Q : Option Value → mr_h → Prop), mr_wp 181 612 [v0, v1, v2, v3] [.int a0, .ref o] h Q = mr_rc (h.1 o) 10 (mr_run 88 [.ref o, .int a0] h (fun v h' => mr_wp 181 615 [v0, v1, v2, v3] (v.toList ++ []) h' Q))) ∧
    (∀ (v0 v1 v3 : Value) (x : Nat) (st : List Value) (h : mr_h) (Q : Option Value → mr_h → Prop), mr_wp 181 615 [v0, v1, .ref x, v3] st h Q = mr_wp 181 616 [v0, v1, .ref x, v3] (.ref x :: st) h Q) ∧
    (∀ (v1 v2 v3 : Value) (st : List Value) (h : mr_h) (Q : Option Value → mr_h → Prop), mr_wp 181 616 [.retAddr 0, v1, v2, v3] st h Q = mr_wp 181 617 [.retAddr 0, v1, v2, v3] (.retAddr 0 :: st) h Q) ∧
    (∀ (v0 v1 v2 : Value) (x : Int32) (st : List Value) (h : mr_h) (Q : Option Value → mr_h → Prop), mr_wp 181 617 [v0, v1, v2, .int x] st h Q = mr_wp 181 618 [v0, v1, v2, .int x] (.int x :: st) h Q) ∧
    (∀ (v0 v1 v2 v3 : Value) (st : List Value) (h : mr_h) (Q : Option Value → mr_h → Prop), mr_wp 181 618 [v0, v1, v2, v3] st h Q = mr_wp 181 619 [v0, v1, v2, v3] (.int (1) :: st) h Q) ∧
    (∀ (v0 v1 v2 v3 : Value) (x : Int32) (y : Int32) (st : List Value) (h : mr_h) (Q : Option Value → mr_h → Prop), mr_wp 181 619 [v0, v1, v2, v3] (.int y :: .int x :: st) h Q = mr_wp 181 620 [v0, v1, v2, v3] (.int (x + y) :: st) h Q) ∧
    (∀ (v0 v1 v2 v3 : Value) (x : Int32) (st : List Value) (h : mr_h) (Q : Option Value → mr_h → Prop), mr_wp 181 620 [v0, v1, v2, v3] (.int x :: .retAddr 0 :: st) h Q = if x < 0 ∨ h.2.2.2.1 ≤ x.toNatClampNeg then False else mr_wp 181 621 [v0, v1, v2, v3] (.int (h.2.2.2.2 x.toNatClampNeg) :: st) h Q) ∧
    (∀ (v0 v1 v2 v3 : Value) (a0 : Int32) (o : Nat) (r0 : Value) (h : mr_h) (Q : Option Value → mr_h → Prop), mr_wp 181 621 [v0, v1, v2, v3] [.int a0, .ref o, r0] h Q = mr_rc (h.1 o) 11 (mr_run 169 [.ref o, .int a0] h (fun v h' => mr_wp 181 624 [v0, v1, v2, v3] (v.toList ++ [r0]) h' Q))) ∧
    (∀ (v0 v1 v2 v3 : Value) (x : Int32) (y : Int32) (st : List Value) (h : mr_h) (Q : Option Value → mr_h → Prop), mr_wp 181 624 [v0, v1, v2, v3] (.int y :: .int x :: st) h Q = if x = y then mr_wp 181 843 [v0, v1, v2, v3] st h Q else mr_wp 181 627 [v0, v1, v2, v3] st h Q) ∧
    (∀ (v0 v1 v2 v3 : Value) (st : List Value) (h : mr_h) (Q : Option Value → mr_h → Prop), mr_wp 181 627 [v0, v1, v2, v3] st h Q = mr_wp 181 628 [v0, v1, v2, v3] (.int (0) :: st) h Q) ∧
    (∀ (v0 v1 v2 v3 : Value) (x : Int32) (h : mr_h) (Q : Option Value → mr_h → Prop) (hv : x &&& 1 = x), mr_wp 181 628 [v0, v1, v2, v3] [.int x] h Q = Q (some (.int x)) h) ∧
    (∀ (v0 v2 v3 : Value) (x : Nat) (st : List Value) (h : mr_h) (Q : Option Value → mr_h → Prop), mr_wp 181 629 [v0, .ref x, v2, v3] st h Q = mr_wp 181 630 [v0, .ref x, v2, v3] (.ref x :: st) h Q) :=
  ⟨fun v0 v1 v2 v3 x st h Q => gx_sald (by decide +kernel),
   fun v1 v2 v3 st h Q => gx_one (i := .aload_n 0) (len := 1) (by decide +kernel) rfl,
   fun v0 v1 v2 x st h Q => gx_one (i := .iload_n 3) (len := 1) (by decide +kernel) rfl,
   fun v0 v1 v2 v3 st h Q => gx_one (i := .iconst 2) (len := 1) (by decide +kernel) rfl,
   fun v0 v1 v2 v3 x y st h Q => gx_one (i := .iadd) (len := 1) (by decide +kernel) rfl,
   fun v0 v1 v2 v3 x st h Q => gx_sald (by decide +kernel),
   fun v0 v1 v2 v3 a0 a1 o h Q => gx_virt (x := 77) (n := 2) (by decide +kernel) (by decide +kernel) rfl (Or.inl (Nat.le_of_ble_eq_true rfl)) (by show _ ≤ mr_mxl 86; rw [show mr_mxl 86 = 3 from by decide +kernel]; exact Nat.le_of_ble_eq_true rfl) (by decide +kernel),
   fun v0 v1 v3 x st h Q => gx_one (i := .aload_n 2) (len := 1) (by decide +kernel) rfl,
   fun v1 v2 v3 st h Q => gx_one (i := .aload_n 0) (len := 1) (by decide +kernel) rfl,
   fun v0 v1 v2 x st h Q => gx_one (i := .iload_n 3) (len := 1) (by decide +kernel) rfl,
   fun v0 v1 v2 v3 st h Q => gx_one (i := .iconst 1) (len := 1) (by decide +kernel) rfl,
   fun v0 v1 v2 v3 x y st h Q => gx_one (i := .iadd) (len := 1) (by decide +kernel) rfl,
   fun v0 v1 v2 v3 x st h Q => gx_sald (by decide +kernel),
   fun v1 v2 v3 st h Q => gx_one (i := .aload_n 0) (len := 1) (by decide +kernel) rfl,
   fun v0 v1 v2 x st h Q => gx_one (i := .iload_n 3) (len := 1) (by decide +kernel) rfl,
   fun v0 v1 v2 v3 st h Q => gx_one (i := .iconst 2) (len := 1) (by decide +kernel) rfl,
   fun v0 v1 v2 v3 x y st h Q => gx_one (i := .iadd) (len := 1) (by decide +kernel) rfl,
   fun v0 v1 v2 v3 x st h Q => gx_sald (by decide +kernel),
   fun v0 v1 v2 v3 a0 a1 o r0 h Q => gx_virt (x := 80) (n := 2) (by decide +kernel) (by decide +kernel) rfl (Or.inl (Nat.le_of_ble_eq_true rfl)) (by show _ ≤ mr_mxl 168; rw [show mr_mxl 168 = 3 from by decide +kernel]; exact Nat.le_of_ble_eq_true rfl) (by decide +kernel),
   fun v0 v1 v2 v3 x y st h Q => gx_br (i := .if_icmp .eq 242) (len := 3) (c := .eq) (by decide +kernel) rfl rfl,
   fun v0 v1 v2 v3 st h Q => gx_one (i := .iconst 0) (len := 1) (by decide +kernel) rfl,
   fun v0 v1 v2 v3 x h Q hv => gx_ret (i := .ireturn) (len := 1) (by decide +kernel) rfl rfl (by simp only [mr_rt, if_pos]; rw [if_pos (Or.inr ⟨by decide +kernel, hv⟩)]),
   fun v0 v2 v3 x st h Q => gx_one (i := .aload_n 1) (len := 1) (by decide +kernel) rfl,
   fun v1 v2 v3 st h Q => gx_one (i := .aload_n 0) (len := 1) (by decide +kernel) rfl,
   fun v0 v1 v2 x st h Q => gx_one (i := .iload_n 3) (len := 1) (by decide +kernel) rfl,
   fun v0 v1 v2 v3 st h Q => gx_one (i := .iconst 1) (len := 1) (by decide +kernel) rfl,
   fun v0 v1 v2 v3 x y st h Q => gx_one (i := .iadd) (len := 1) (by decide +kernel) rfl,
   fun v0 v1 v2 v3 x st h Q => gx_sald (by decide +kernel),
   fun v0 v1 v2 v3 a0 o h Q => gx_virt (x := 81) (n := 1) (by decide +kernel) (by decide +kernel) rfl (Or.inl (Nat.le_of_ble_eq_true rfl)) (by show _ ≤ mr_mxl 88; rw [show mr_mxl 88 = 3 from by decide +kernel]; exact Nat.le_of_ble_eq_true rfl) (by decide +kernel),
   fun v0 v1 v3 x st h Q => gx_one (i := .aload_n 2) (len := 1) (by decide +kernel) rfl,
   fun v1 v2 v3 st h Q => gx_one (i := .aload_n 0) (len := 1) (by decide +kernel) rfl,
   fun v0 v1 v2 x st h Q => gx_one (i := .iload_n 3) (len := 1) (by decide +kernel) rfl,
   fun v0 v1 v2 v3 st h Q => gx_one (i := .iconst 1) (len := 1) (by decide +kernel) rfl,
   fun v0 v1 v2 v3 x y st h Q => gx_one (i := .iadd) (len := 1) (by decide +kernel) rfl,
   fun v0 v1 v2 v3 x st h Q => gx_sald (by decide +kernel),
   fun v0 v1 v2 v3 a0 o r0 h Q => gx_virt (x := 84) (n := 1) (by decide +kernel) (by decide +kernel) rfl (Or.inl (Nat.le_of_ble_eq_true rfl)) (by show _ ≤ mr_mxl 169; rw [show mr_mxl 169 = 8 from by decide +kernel]; exact Nat.le_of_ble_eq_true rfl) (by decide +kernel),
   fun v0 v1 v2 v3 x y st h Q => gx_br (i := .if_icmp .eq 219) (len := 3) (c := .eq) (by decide +kernel) rfl rfl,
   fun v0 v1 v2 v3 st h Q => gx_one (i := .iconst 0) (len := 1) (by decide +kernel) rfl,
   fun v0 v1 v2 v3 x h Q hv => gx_ret (i := .ireturn) (len := 1) (by decide +kernel) rfl rfl (by simp only [mr_rt, if_pos]; rw [if_pos (Or.inr ⟨by decide +kernel, hv⟩)]),
   fun v0 v2 v3 x st h Q => gx_one (i := .aload_n 1) (len := 1) (by decide +kernel) rfl⟩
theorem S_law_law_10 : (∀ (v1 v2 v3 : Value) (st : List Value) (h : mr_h) (Q : Option Value → mr_h → Prop), mr_wp 181 630 [.retAddr 0, v1, v2, v3] st h Q = mr_wp 181 631 [.retAddr 0, v1, v2, v3] (.retAddr 0 :: st) h Q) ∧
    (∀ (v0 v1 v2 : Value) (x : Int32) (st : List Value) (h : mr_h) (Q : Option Value → mr_h → Prop), mr_wp 181 631 [v0, v1, v2, .int x] st h Q = mr_wp 181 632 [v0, v1, v2, .int x] (.int x :: st) h Q) ∧
    (∀ (v0 v1 v2 v3 : Value) (st : List Value) (h : mr_h) (Q : Option Value → mr_h → Prop), mr_wp 181 632 [v0, v1, v2, v3] st h Q = mr_wp 181 633 [v0, v1, v2, v3] (.int (1) :: st) h Q) ∧
    (∀ (v0 v1 v2 v3 : Value) (x : Int32) (y : Int32) (st : List Value) (h : mr_h) (Q : Option Value → mr_h → Prop), mr_wp 181 633 [v0, v1, v2, v3] (.int y :: .int x :: st) h Q = mr_wp 181 634 [v0, v1, v2, v3] (.int (x + y) :: st) h Q) ∧
    (∀ (v0 v1 v2 v3 : Value) (x : Int32) (st : List Value) (h : mr_h) (Q : Option Value → mr_h → Prop), mr_wp 181 634 [v0, v1, v2, v3] (.int x :: .retAddr 0 :: st) h Q = if x < 0 ∨ h.2.2.2.1 ≤ x.toNatClampNeg then False else mr_wp 181 635 [v0, v1, v2, v3] (.int (h.2.2.2.2 x.toNatClampNeg) :: st) h Q) ∧
    (∀ (v1 v2 v3 : Value) (st : List Value) (h : mr_h) (Q : Option Value → mr_h → Prop), mr_wp 181 635 [.retAddr 0, v1, v2, v3] st h Q = mr_wp 181 636 [.retAddr 0, v1, v2, v3] (.retAddr 0 :: st) h Q) ∧
    (∀ (v0 v1 v2 : Value) (x : Int32) (st : List Value) (h : mr_h) (Q : Option Value → mr_h → Prop), mr_wp 181 636 [v0, v1, v2, .int x] st h Q = mr_wp 181 637 [v0, v1, v2, .int x] (.int x :: st) h Q) ∧
    (∀ (v0 v1 v2 v3 : Value) (st : List Value) (h : mr_h) (Q : Option Value → mr_h → Prop), mr_wp 181 637 [v0, v1, v2, v3] st h Q = mr_wp 181 638 [v0, v1, v2, v3] (.int (2) :: st) h Q) ∧
    (∀ (v0 v1 v2 v3 : Value) (x : Int32) (y : Int32) (st : List Value) (h : mr_h) (Q : Option Value → mr_h → Prop), mr_wp 181 638 [v0, v1, v2, v3] (.int y :: .int x :: st) h Q = mr_wp 181 639 [v0, v1, v2, v3] (.int (x + y) :: st) h Q) ∧
    (∀ (v0 v1 v2 v3 : Value) (x : Int32) (st : List Value) (h : mr_h) (Q : Option Value → mr_h → Prop), mr_wp 181 639 [v0, v1, v2, v3] (.int x :: .retAddr 0 :: st) h Q = if x < 0 ∨ h.2.2.2.1 ≤ x.toNatClampNeg then False else mr_wp 181 640 [v0, v1, v2, v3] (.int (h.2.2.2.2 x.toNatClampNeg) :: st) h Q) ∧
    (∀ (v1 v2 v3 : Value) (st : List Value) (h : mr_h) (Q : Option Value → mr_h → Prop), mr_wp 181 640 [.retAddr 0, v1, v2, v3] st h Q = mr_wp 181 641 [.retAddr 0, v1, v2, v3] (.retAddr 0 :: st) h Q) ∧
    (∀ (v0 v1 v2 : Value) (x : Int32) (st : List Value) (h : mr_h) (Q : Option Value → mr_h → Prop), mr_wp 181 641 [v0, v1, v2, .int x] st h Q = mr_wp 181 642 [v0, v1, v2, .int x] (.int x :: st) h Q) ∧
    (∀ (v0 v1 v2 v3 : Value) (st : List Value) (h : mr_h) (Q : Option Value → mr_h → Prop), mr_wp 181 642 [v0, v1, v2, v3] st h Q = mr_wp 181 643 [v0, v1, v2, v3] (.int (3) :: st) h Q) ∧
    (∀ (v0 v1 v2 v3 : Value) (x : Int32) (y : Int32) (st : List Value) (h : mr_h) (Q : Option Value → mr_h → Prop), mr_wp 181 643 [v0, v1, v2, v3] (.int y :: .int x :: st) h Q = mr_wp 181 644 [v0, v1, v2, v3] (.int (x + y) :: st) h Q) ∧
    (∀ (v0 v1 v2 v3 : Value) (x : Int32) (st : List Value) (h : mr_h) (Q : Option Value → mr_h → Prop), mr_wp 181 644 [v0, v1, v2, v3] (.int x :: .retAddr 0 :: st) h Q = if x < 0 ∨ h.2.2.2.1 ≤ x.toNatClampNeg then False else mr_wp 181 645 [v0, v1, v2, v3] (.int (h.2.2.2.2 x.toNatClampNeg) :: st) h Q) ∧
    (∀ (v1 v2 v3 : Value) (st : List Value) (h : mr_h) (Q : Option Value → mr_h → Prop), mr_wp 181 645 [.retAddr 0, v1, v2, v3] st h Q = mr_wp 181 646 [.retAddr 0, v1, v2, v3] (.retAddr 0 :: st) h Q) ∧
    (∀ (v0 v1 v2 : Value) (x : Int32) (st : List Value) (h : mr_h) (Q : Option Value → mr_h → Prop), mr_wp 181 646 [v0, v1, v2, .int x] st h Q = mr_wp 181 647 [v0, v1, v2, .int x] (.int x :: st) h Q) ∧
    (∀ (v0 v1 v2 v3 : Value) (st : List Value) (h : mr_h) (Q : Option Value → mr_h → Prop), mr_wp 181 647 [v0, v1, v2, v3] st h Q = mr_wp 181 648 [v0, v1, v2, v3] (.int (4) :: st) h Q) ∧
    (∀ (v0 v1 v2 v3 : Value) (x : Int32) (y : Int32) (st : List Value) (h : mr_h) (Q : Option Value → mr_h → Prop), mr_wp 181 648 [v0, v1, v2, v3] (.int y :: .int x :: st) h Q = mr_wp 181 649 [v0, v1, v2, v3] (.int (x + y) :: st) h Q) ∧
    (∀ (v0 v1 v2 v3 : Value) (x : Int32) (st : List Value) (h : mr_h) (Q : Option Value → mr_h → Prop), mr_wp 181 649 [v0, v1, v2, v3] (.int x :: .retAddr 0 :: st) h Q = if x < 0 ∨ h.2.2.2.1 ≤ x.toNatClampNeg then False else mr_wp 181 650 [v0, v1, v2, v3] (.int (h.2.2.2.2 x.toNatClampNeg) :: st) h Q) ∧
    (∀ (v0 v1 v2 v3 : Value) (a0 : Int32) (a1 : Int32) (a2 : Int32) (a3 : Int32) (o : Nat) (h : mr_h) (Q : Option Value → mr_h → Prop), mr_wp 181 650 [v0, v1, v2, v3] [.int a3, .int a2, .int a1, .int a0, .ref o] h Q = mr_rc (h.1 o) 10 (mr_run 93 [.ref o, .int a0, .int a1, .int a2, .int a3] h (fun v h' => mr_wp 181 653 [v0, v1, v2, v3] (v.toList ++ []) h' Q))) ∧
    (∀ (v0 v1 v3 : Value) (x : Nat) (st : List Value) (h : mr_h) (Q : Option Value → mr_h → Prop), mr_wp 181 653 [v0, v1, .ref x, v3] st h Q = mr_wp 181 654 [v0, v1, .ref x, v3] (.ref x :: st) h Q) ∧
    (∀ (v1 v2 v3 : Value) (st : List Value) (h : mr_h) (Q : Option Value → mr_h → Prop), mr_wp 181 654 [.retAddr 0, v1, v2, v3] st h Q = mr_wp 181 655 [.retAddr 0, v1, v2, v3] (.retAddr 0 :: st) h Q) ∧
    (∀ (v0 v1 v2 : Value) (x : Int32) (st : List Value) (h : mr_h) (Q : Option Value → mr_h → Prop), mr_wp 181 655 [v0, v1, v2, .int x] st h Q = mr_wp 181 656 [v0, v1, v2, .int x] (.int x :: st) h Q) ∧
    (∀ (v0 v1 v2 v3 : Value) (st : List Value) (h : mr_h) (Q : Option Value → mr_h → Prop), mr_wp 181 656 [v0, v1, v2, v3] st h Q = mr_wp 181 657 [v0, v1, v2, v3] (.int (1) :: st) h Q) ∧
    (∀ (v0 v1 v2 v3 : Value) (x : Int32) (y : Int32) (st : List Value) (h : mr_h) (Q : Option Value → mr_h → Prop), mr_wp 181 657 [v0, v1, v2, v3] (.int y :: .int x :: st) h Q = mr_wp 181 658 [v0, v1, v2, v3] (.int (x + y) :: st) h Q) ∧
    (∀ (v0 v1 v2 v3 : Value) (x : Int32) (st : List Value) (h : mr_h) (Q : Option Value → mr_h → Prop), mr_wp 181 658 [v0, v1, v2, v3] (.int x :: .retAddr 0 :: st) h Q = if x < 0 ∨ h.2.2.2.1 ≤ x.toNatClampNeg then False else mr_wp 181 659 [v0, v1, v2, v3] (.int (h.2.2.2.2 x.toNatClampNeg) :: st) h Q) ∧
    (∀ (v1 v2 v3 : Value) (st : List Value) (h : mr_h) (Q : Option Value → mr_h → Prop), mr_wp 181 659 [.retAddr 0, v1, v2, v3] st h Q = mr_wp 181 660 [.retAddr 0, v1, v2, v3] (.retAddr 0 :: st) h Q) ∧
    (∀ (v0 v1 v2 : Value) (x : Int32) (st : List Value) (h : mr_h) (Q : Option Value → mr_h → Prop), mr_wp 181 660 [v0, v1, v2, .int x] st h Q = mr_wp 181 661 [v0, v1, v2, .int x] (.int x :: st) h Q) ∧
    (∀ (v0 v1 v2 v3 : Value) (st : List Value) (h : mr_h) (Q : Option Value → mr_h → Prop), mr_wp 181 661 [v0, v1, v2, v3] st h Q = mr_wp 181 662 [v0, v1, v2, v3] (.int (2) :: st) h Q) ∧
    (∀ (v0 v1 v2 v3 : Value) (x : Int32) (y : Int32) (st : List Value) (h : mr_h) (Q : Option Value → mr_h → Prop), mr_wp 181 662 [v0, v1, v2, v3] (.int y :: .int x :: st) h Q = mr_wp 181 663 [v0, v1, v2, v3] (.int (x + y) :: st) h Q) ∧
    (∀ (v0 v1 v2 v3 : Value) (x : Int32) (st : List Value) (h : mr_h) (Q : Option Value → mr_h → Prop), mr_wp 181 663 [v0, v1, v2, v3] (.int x :: .retAddr 0 :: st) h Q = if x < 0 ∨ h.2.2.2.1 ≤ x.toNatClampNeg then False else mr_wp 181 664 [v0, v1, v2, v3] (.int (h.2.2.2.2 x.toNatClampNeg) :: st) h Q) ∧
    (∀ (v1 v2 v3 : Value) (st : List Value) (h : mr_h) (Q : Option Value → mr_h → Prop), mr_wp 181 664 [.retAddr 0, v1, v2, v3] st h Q = mr_wp 181 665 [.retAddr 0, v1, v2, v3] (.retAddr 0 :: st) h Q) ∧
    (∀ (v0 v1 v2 : Value) (x : Int32) (st : List Value) (h : mr_h) (Q : Option Value → mr_h → Prop), mr_wp 181 665 [v0, v1, v2, .int x] st h Q = mr_wp 181 666 [v0, v1, v2, .int x] (.int x :: st) h Q) ∧
    (∀ (v0 v1 v2 v3 : Value) (st : List Value) (h : mr_h) (Q : Option Value → mr_h → Prop), mr_wp 181 666 [v0, v1, v2, v3] st h Q = mr_wp 181 667 [v0, v1, v2, v3] (.int (3) :: st) h Q) ∧
    (∀ (v0 v1 v2 v3 : Value) (x : Int32) (y : Int32) (st : List Value) (h : mr_h) (Q : Option Value → mr_h → Prop), mr_wp 181 667 [v0, v1, v2, v3] (.int y :: .int x :: st) h Q = mr_wp 181 668 [v0, v1, v2, v3] (.int (x + y) :: st) h Q) ∧
    (∀ (v0 v1 v2 v3 : Value) (x : Int32) (st : List Value) (h : mr_h) (Q : Option Value → mr_h → Prop), mr_wp 181 668 [v0, v1, v2, v3] (.int x :: .retAddr 0 :: st) h Q = if x < 0 ∨ h.2.2.2.1 ≤ x.toNatClampNeg then False else mr_wp 181 669 [v0, v1, v2, v3] (.int (h.2.2.2.2 x.toNatClampNeg) :: st) h Q) ∧
    (∀ (v1 v2 v3 : Value) (st : List Value) (h : mr_h) (Q : Option Value → mr_h → Prop), mr_wp 181 669 [.retAddr 0, v1, v2, v3] st h Q = mr_wp 181 670 [.retAddr 0, v1, v2, v3] (.retAddr 0 :: st) h Q) ∧
    (∀ (v0 v1 v2 : Value) (x : Int32) (st : List Value) (h : mr_h) (Q : Option Value → mr_h → Prop), mr_wp 181 670 [v0, v1, v2, .int x] st h Q = mr_wp 181 671 [v0, v1, v2, .int x] (.int x :: st) h Q) ∧
    (∀ (v0 v1 v2 v3 : Value) (st : List Value) (h : mr_h) (Q : Option Value → mr_h → Prop), mr_wp 181 671 [v0, v1, v2, v3] st h Q = mr_wp 181 672 [v0, v1, v2, v3] (.int (4) :: st) h Q) :=
  ⟨fun v1 v2 v3 st h Q => gx_one (i := .aload_n 0) (len := 1) (by decide +kernel) rfl,
   fun v0 v1 v2 x st h Q => gx_one (i := .iload_n 3) (len := 1) (by decide +kernel) rfl,
   fun v0 v1 v2 v3 st h Q => gx_one (i := .iconst 1) (len := 1) (by decide +kernel) rfl,
   fun v0 v1 v2 v3 x y st h Q => gx_one (i := .iadd) (len := 1) (by decide +kernel) rfl,
   fun v0 v1 v2 v3 x st h Q => gx_sald (by decide +kernel),
   fun v1 v2 v3 st h Q => gx_one (i := .aload_n 0) (len := 1) (by decide +kernel) rfl,
   fun v0 v1 v2 x st h Q => gx_one (i := .iload_n 3) (len := 1) (by decide +kernel) rfl,
   fun v0 v1 v2 v3 st h Q => gx_one (i := .iconst 2) (len := 1) (by decide +kernel) rfl,
   fun v0 v1 v2 v3 x y st h Q => gx_one (i := .iadd) (len := 1) (by decide +kernel) rfl,
   fun v0 v1 v2 v3 x st h Q => gx_sald (by decide +kernel),
   fun v1 v2 v3 st h Q => gx_one (i := .aload_n 0) (len := 1) (by decide +kernel) rfl,
   fun v0 v1 v2 x st h Q => gx_one (i := .iload_n 3) (len := 1) (by decide +kernel) rfl,
   fun v0 v1 v2 v3 st h Q => gx_one (i := .iconst 3) (len := 1) (by decide +kernel) rfl,
   fun v0 v1 v2 v3 x y st h Q => gx_one (i := .iadd) (len := 1) (by decide +kernel) rfl,
   fun v0 v1 v2 v3 x st h Q => gx_sald (by decide +kernel),
   fun v1 v2 v3 st h Q => gx_one (i := .aload_n 0) (len := 1) (by decide +kernel) rfl,
   fun v0 v1 v2 x st h Q => gx_one (i := .iload_n 3) (len := 1) (by decide +kernel) rfl,
   fun v0 v1 v2 v3 st h Q => gx_one (i := .iconst 4) (len := 1) (by decide +kernel) rfl,
   fun v0 v1 v2 v3 x y st h Q => gx_one (i := .iadd) (len := 1) (by decide +kernel) rfl,
   fun v0 v1 v2 v3 x st h Q => gx_sald (by decide +kernel),
   fun v0 v1 v2 v3 a0 a1 a2 a3 o h Q => gx_virt (x := 85) (n := 4) (by decide +kernel) (by decide +kernel) rfl (Or.inl (Nat.le_of_ble_eq_true rfl)) (by show _ ≤ mr_mxl 93; rw [show mr_mxl 93 = 5 from by decide +kernel]; exact Nat.le_of_ble_eq_true rfl) (by decide +kernel),
   fun v0 v1 v3 x st h Q => gx_one (i := .aload_n 2) (len := 1) (by decide +kernel) rfl,
   fun v1 v2 v3 st h Q => gx_one (i := .aload_n 0) (len := 1) (by decide +kernel) rfl,
   fun v0 v1 v2 x st h Q => gx_one (i := .iload_n 3) (len := 1) (by decide +kernel) rfl,
   fun v0 v1 v2 v3 st h Q => gx_one (i := .iconst 1) (len := 1) (by decide +kernel) rfl,
   fun v0 v1 v2 v3 x y st h Q => gx_one (i := .iadd) (len := 1) (by decide +kernel) rfl,
   fun v0 v1 v2 v3 x st h Q => gx_sald (by decide +kernel),
   fun v1 v2 v3 st h Q => gx_one (i := .aload_n 0) (len := 1) (by decide +kernel) rfl,
   fun v0 v1 v2 x st h Q => gx_one (i := .iload_n 3) (len := 1) (by decide +kernel) rfl,
   fun v0 v1 v2 v3 st h Q => gx_one (i := .iconst 2) (len := 1) (by decide +kernel) rfl,
   fun v0 v1 v2 v3 x y st h Q => gx_one (i := .iadd) (len := 1) (by decide +kernel) rfl,
   fun v0 v1 v2 v3 x st h Q => gx_sald (by decide +kernel),
   fun v1 v2 v3 st h Q => gx_one (i := .aload_n 0) (len := 1) (by decide +kernel) rfl,
   fun v0 v1 v2 x st h Q => gx_one (i := .iload_n 3) (len := 1) (by decide +kernel) rfl,
   fun v0 v1 v2 v3 st h Q => gx_one (i := .iconst 3) (len := 1) (by decide +kernel) rfl,
   fun v0 v1 v2 v3 x y st h Q => gx_one (i := .iadd) (len := 1) (by decide +kernel) rfl,
   fun v0 v1 v2 v3 x st h Q => gx_sald (by decide +kernel),
   fun v1 v2 v3 st h Q => gx_one (i := .aload_n 0) (len := 1) (by decide +kernel) rfl,
   fun v0 v1 v2 x st h Q => gx_one (i := .iload_n 3) (len := 1) (by decide +kernel) rfl,
   fun v0 v1 v2 v3 st h Q => gx_one (i := .iconst 4) (len := 1) (by decide +kernel) rfl⟩
theorem S_law_law_11 : (∀ (v0 v1 v2 v3 : Value) (x : Int32) (y : Int32) (st : List Value) (h : mr_h) (Q : Option Value → mr_h → Prop), mr_wp 181 672 [v0, v1, v2, v3] (.int y :: .int x :: st) h Q = mr_wp 181 673 [v0, v1, v2, v3] (.int (x + y) :: st) h Q) ∧
    (∀ (v0 v1 v2 v3 : Value) (x : Int32) (st : List Value) (h : mr_h) (Q : Option Value → mr_h → Prop), mr_wp 181 673 [v0, v1, v2, v3] (.int x :: .retAddr 0 :: st) h Q = if x < 0 ∨ h.2.2.2.1 ≤ x.toNatClampNeg then False else mr_wp 181 674 [v0, v1, v2, v3] (.int (h.2.2.2.2 x.toNatClampNeg) :: st) h Q) ∧
    (∀ (v0 v1 v2 v3 : Value) (a0 : Int32) (a1 : Int32) (a2 : Int32) (a3 : Int32) (o : Nat) (r0 : Value) (h : mr_h) (Q : Option Value → mr_h → Prop), mr_wp 181 674 [v0, v1, v2, v3] [.int a3, .int a2, .int a1, .int a0, .ref o, r0] h Q = mr_rc (h.1 o) 11 (mr_run 170 [.ref o, .int a0, .int a1, .int a2, .int a3] h (fun v h' => mr_wp 181 677 [v0, v1, v2, v3] (v.toList ++ [r0]) h' Q))) ∧
    (∀ (v0 v1 v2 v3 : Value) (x : Int32) (y : Int32) (st : List Value) (h : mr_h) (Q : Option Value → mr_h → Prop), mr_wp 181 677 [v0, v1, v2, v3] (.int y :: .int x :: st) h Q = if x = y then mr_wp 181 843 [v0, v1, v2, v3] st h Q else mr_wp 181 680 [v0, v1, v2, v3] st h Q) ∧
    (∀ (v0 v1 v2 v3 : Value) (st : List Value) (h : mr_h) (Q : Option Value → mr_h → Prop), mr_wp 181 680 [v0, v1, v2, v3] st h Q = mr_wp 181 681 [v0, v1, v2, v3] (.int (0) :: st) h Q) ∧
    (∀ (v0 v1 v2 v3 : Value) (x : Int32) (h : mr_h) (Q : Option Value → mr_h → Prop) (hv : x &&& 1 = x), mr_wp 181 681 [v0, v1, v2, v3] [.int x] h Q = Q (some (.int x)) h) ∧
    (∀ (v0 v2 v3 : Value) (x : Nat) (st : List Value) (h : mr_h) (Q : Option Value → mr_h → Prop), mr_wp 181 682 [v0, .ref x, v2, v3] st h Q = mr_wp 181 683 [v0, .ref x, v2, v3] (.ref x :: st) h Q) ∧
    (∀ (v1 v2 v3 : Value) (st : List Value) (h : mr_h) (Q : Option Value → mr_h → Prop), mr_wp 181 683 [.retAddr 0, v1, v2, v3] st h Q = mr_wp 181 684 [.retAddr 0, v1, v2, v3] (.retAddr 0 :: st) h Q) ∧
    (∀ (v0 v1 v2 : Value) (x : Int32) (st : List Value) (h : mr_h) (Q : Option Value → mr_h → Prop), mr_wp 181 684 [v0, v1, v2, .int x] st h Q = mr_wp 181 685 [v0, v1, v2, .int x] (.int x :: st) h Q) ∧
    (∀ (v0 v1 v2 v3 : Value) (st : List Value) (h : mr_h) (Q : Option Value → mr_h → Prop), mr_wp 181 685 [v0, v1, v2, v3] st h Q = mr_wp 181 686 [v0, v1, v2, v3] (.int (1) :: st) h Q) ∧
    (∀ (v0 v1 v2 v3 : Value) (x : Int32) (y : Int32) (st : List Value) (h : mr_h) (Q : Option Value → mr_h → Prop), mr_wp 181 686 [v0, v1, v2, v3] (.int y :: .int x :: st) h Q = mr_wp 181 687 [v0, v1, v2, v3] (.int (x + y) :: st) h Q) ∧
    (∀ (v0 v1 v2 v3 : Value) (x : Int32) (st : List Value) (h : mr_h) (Q : Option Value → mr_h → Prop), mr_wp 181 687 [v0, v1, v2, v3] (.int x :: .retAddr 0 :: st) h Q = if x < 0 ∨ h.2.2.2.1 ≤ x.toNatClampNeg then False else mr_wp 181 688 [v0, v1, v2, v3] (.int (h.2.2.2.2 x.toNatClampNeg) :: st) h Q) ∧
    (∀ (v1 v2 v3 : Value) (st : List Value) (h : mr_h) (Q : Option Value → mr_h → Prop), mr_wp 181 688 [.retAddr 0, v1, v2, v3] st h Q = mr_wp 181 689 [.retAddr 0, v1, v2, v3] (.retAddr 0 :: st) h Q) ∧
    (∀ (v0 v1 v2 : Value) (x : Int32) (st : List Value) (h : mr_h) (Q : Option Value → mr_h → Prop), mr_wp 181 689 [v0, v1, v2, .int x] st h Q = mr_wp 181 690 [v0, v1, v2, .int x] (.int x :: st) h Q) ∧
    (∀ (v0 v1 v2 v3 : Value) (st : List Value) (h : mr_h) (Q : Option Value → mr_h → Prop), mr_wp 181 690 [v0, v1, v2, v3] st h Q = mr_wp 181 691 [v0, v1, v2, v3] (.int (2) :: st) h Q) ∧
    (∀ (v0 v1 v2 v3 : Value) (x : Int32) (y : Int32) (st : List Value) (h : mr_h) (Q : Option Value → mr_h → Prop), mr_wp 181 691 [v0, v1, v2, v3] (.int y :: .int x :: st) h Q = mr_wp 181 692 [v0, v1, v2, v3] (.int (x + y) :: st) h Q) ∧
    (∀ (v0 v1 v2 v3 : Value) (x : Int32) (st : List Value) (h : mr_h) (Q : Option Value → mr_h → Prop), mr_wp 181 692 [v0, v1, v2, v3] (.int x :: .retAddr 0 :: st) h Q = if x < 0 ∨ h.2.2.2.1 ≤ x.toNatClampNeg then False else mr_wp 181 693 [v0, v1, v2, v3] (.int (h.2.2.2.2 x.toNatClampNeg) :: st) h Q) ∧
    (∀ (v1 v2 v3 : Value) (st : List Value) (h : mr_h) (Q : Option Value → mr_h → Prop), mr_wp 181 693 [.retAddr 0, v1, v2, v3] st h Q = mr_wp 181 694 [.retAddr 0, v1, v2, v3] (.retAddr 0 :: st) h Q) ∧
    (∀ (v0 v1 v2 : Value) (x : Int32) (st : List Value) (h : mr_h) (Q : Option Value → mr_h → Prop), mr_wp 181 694 [v0, v1, v2, .int x] st h Q = mr_wp 181 695 [v0, v1, v2, .int x] (.int x :: st) h Q) ∧
    (∀ (v0 v1 v2 v3 : Value) (st : List Value) (h : mr_h) (Q : Option Value → mr_h → Prop), mr_wp 181 695 [v0, v1, v2, v3] st h Q = mr_wp 181 696 [v0, v1, v2, v3] (.int (3) :: st) h Q) ∧
    (∀ (v0 v1 v2 v3 : Value) (x : Int32) (y : Int32) (st : List Value) (h : mr_h) (Q : Option Value → mr_h → Prop), mr_wp 181 696 [v0, v1, v2, v3] (.int y :: .int x :: st) h Q = mr_wp 181 697 [v0, v1, v2, v3] (.int (x + y) :: st) h Q) ∧
    (∀ (v0 v1 v2 v3 : Value) (x : Int32) (st : List Value) (h : mr_h) (Q : Option Value → mr_h → Prop), mr_wp 181 697 [v0, v1, v2, v3] (.int x :: .retAddr 0 :: st) h Q = if x < 0 ∨ h.2.2.2.1 ≤ x.toNatClampNeg then False else mr_wp 181 698 [v0, v1, v2, v3] (.int (h.2.2.2.2 x.toNatClampNeg) :: st) h Q) ∧
    (∀ (v0 v1 v2 v3 : Value) (a0 : Int32) (a1 : Int32) (a2 : Int32) (o : Nat) (h : mr_h) (Q : Option Value → mr_h → Prop), mr_wp 181 698 [v0, v1, v2, v3] [.int a2, .int a1, .int a0, .ref o] h Q = mr_rc (h.1 o) 10 (mr_run 100 [.ref o, .int a0, .int a1, .int a2] h (fun v h' => mr_wp 181 701 [v0, v1, v2, v3] (v.toList ++ []) h' Q))) ∧
    (∀ (v0 v1 v3 : Value) (x : Nat) (st : List Value) (h : mr_h) (Q : Option Value → mr_h → Prop), mr_wp 181 701 [v0, v1, .ref x, v3] st h Q = mr_wp 181 702 [v0, v1, .ref x, v3] (.ref x :: st) h Q) ∧
    (∀ (v1 v2 v3 : Value) (st : List Value) (h : mr_h) (Q : Option Value → mr_h → Prop), mr_wp 181 702 [.retAddr 0, v1, v2, v3] st h Q = mr_wp 181 703 [.retAddr 0, v1, v2, v3] (.retAddr 0 :: st) h Q) ∧
    (∀ (v0 v1 v2 : Value) (x : Int32) (st : List Value) (h : mr_h) (Q : Option Value → mr_h → Prop), mr_wp 181 703 [v0, v1, v2, .int x] st h Q = mr_wp 181 704 [v0, v1, v2, .int x] (.int x :: st) h Q) ∧
    (∀ (v0 v1 v2 v3 : Value) (st : List Value) (h : mr_h) (Q : Option Value → mr_h → Prop), mr_wp 181 704 [v0, v1, v2, v3] st h Q = mr_wp 181 705 [v0, v1, v2, v3] (.int (1) :: st) h Q) ∧
    (∀ (v0 v1 v2 v3 : Value) (x : Int32) (y : Int32) (st : List Value) (h : mr_h) (Q : Option Value → mr_h → Prop), mr_wp 181 705 [v0, v1, v2, v3] (.int y :: .int x :: st) h Q = mr_wp 181 706 [v0, v1, v2, v3] (.int (x + y) :: st) h Q) ∧
    (∀ (v0 v1 v2 v3 : Value) (x : Int32) (st : List Value) (h : mr_h) (Q : Option Value → mr_h → Prop), mr_wp 181 706 [v0, v1, v2, v3] (.int x :: .retAddr 0 :: st) h Q = if x < 0 ∨ h.2.2.2.1 ≤ x.toNatClampNeg then False else mr_wp 181 707 [v0, v1, v2, v3] (.int (h.2.2.2.2 x.toNatClampNeg) :: st) h Q) ∧
    (∀ (v1 v2 v3 : Value) (st : List Value) (h : mr_h) (Q : Option Value → mr_h → Prop), mr_wp 181 707 [.retAddr 0, v1, v2, v3] st h Q = mr_wp 181 708 [.retAddr 0, v1, v2, v3] (.retAddr 0 :: st) h Q) ∧
    (∀ (v0 v1 v2 : Value) (x : Int32) (st : List Value) (h : mr_h) (Q : Option Value → mr_h → Prop), mr_wp 181 708 [v0, v1, v2, .int x] st h Q = mr_wp 181 709 [v0, v1, v2, .int x] (.int x :: st) h Q) ∧
    (∀ (v0 v1 v2 v3 : Value) (st : List Value) (h : mr_h) (Q : Option Value → mr_h → Prop), mr_wp 181 709 [v0, v1, v2, v3] st h Q = mr_wp 181 710 [v0, v1, v2, v3] (.int (2) :: st) h Q) ∧
    (∀ (v0 v1 v2 v3 : Value) (x : Int32) (y : Int32) (st : List Value) (h : mr_h) (Q : Option Value → mr_h → Prop), mr_wp 181 710 [v0, v1, v2, v3] (.int y :: .int x :: st) h Q = mr_wp 181 711 [v0, v1, v2, v3] (.int (x + y) :: st) h Q) ∧
    (∀ (v0 v1 v2 v3 : Value) (x : Int32) (st : List Value) (h : mr_h) (Q : Option Value → mr_h → Prop), mr_wp 181 711 [v0, v1, v2, v3] (.int x :: .retAddr 0 :: st) h Q = if x < 0 ∨ h.2.2.2.1 ≤ x.toNatClampNeg then False else mr_wp 181 712 [v0, v1, v2, v3] (.int (h.2.2.2.2 x.toNatClampNeg) :: st) h Q) ∧
    (∀ (v1 v2 v3 : Value) (st : List Value) (h : mr_h) (Q : Option Value → mr_h → Prop), mr_wp 181 712 [.retAddr 0, v1, v2, v3] st h Q = mr_wp 181 713 [.retAddr 0, v1, v2, v3] (.retAddr 0 :: st) h Q) ∧
    (∀ (v0 v1 v2 : Value) (x : Int32) (st : List Value) (h : mr_h) (Q : Option Value → mr_h → Prop), mr_wp 181 713 [v0, v1, v2, .int x] st h Q = mr_wp 181 714 [v0, v1, v2, .int x] (.int x :: st) h Q) ∧
    (∀ (v0 v1 v2 v3 : Value) (st : List Value) (h : mr_h) (Q : Option Value → mr_h → Prop), mr_wp 181 714 [v0, v1, v2, v3] st h Q = mr_wp 181 715 [v0, v1, v2, v3] (.int (3) :: st) h Q) ∧
    (∀ (v0 v1 v2 v3 : Value) (x : Int32) (y : Int32) (st : List Value) (h : mr_h) (Q : Option Value → mr_h → Prop), mr_wp 181 715 [v0, v1, v2, v3] (.int y :: .int x :: st) h Q = mr_wp 181 716 [v0, v1, v2, v3] (.int (x + y) :: st) h Q) ∧
    (∀ (v0 v1 v2 v3 : Value) (x : Int32) (st : List Value) (h : mr_h) (Q : Option Value → mr_h → Prop), mr_wp 181 716 [v0, v1, v2, v3] (.int x :: .retAddr 0 :: st) h Q = if x < 0 ∨ h.2.2.2.1 ≤ x.toNatClampNeg then False else mr_wp 181 717 [v0, v1, v2, v3] (.int (h.2.2.2.2 x.toNatClampNeg) :: st) h Q) ∧
    (∀ (v0 v1 v2 v3 : Value) (a0 : Int32) (a1 : Int32) (a2 : Int32) (o : Nat) (r0 : Value) (h : mr_h) (Q : Option Value → mr_h → Prop), mr_wp 181 717 [v0, v1, v2, v3] [.int a2, .int a1, .int a0, .ref o, r0] h Q = mr_rc (h.1 o) 11 (mr_run 172 [.ref o, .int a0, .int a1, .int a2] h (fun v h' => mr_wp 181 720 [v0, v1, v2, v3] (v.toList ++ [r0]) h' Q))) :=
  ⟨fun v0 v1 v2 v3 x y st h Q => gx_one (i := .iadd) (len := 1) (by decide +kernel) rfl,
   fun v0 v1 v2 v3 x st h Q => gx_sald (by decide +kernel),
   fun v0 v1 v2 v3 a0 a1 a2 a3 o r0 h Q => gx_virt (x := 89) (n := 4) (by decide +kernel) (by decide +kernel) rfl (Or.inl (Nat.le_of_ble_eq_true rfl)) (by show _ ≤ mr_mxl 170; rw [show mr_mxl 170 = 17 from by decide +kernel]; exact Nat.le_of_ble_eq_true rfl) (by decide +kernel),
   fun v0 v1 v2 v3 x y st h Q => gx_br (i := .if_icmp .eq 166) (len := 3) (c := .eq) (by decide +kernel) rfl rfl,
   fun v0 v1 v2 v3 st h Q => gx_one (i := .iconst 0) (len := 1) (by decide +kernel) rfl,
   fun v0 v1 v2 v3 x h Q hv => gx_ret (i := .ireturn) (len := 1) (by decide +kernel) rfl rfl (by simp only [mr_rt, if_pos]; rw [if_pos (Or.inr ⟨by decide +kernel, hv⟩)]),
   fun v0 v2 v3 x st h Q => gx_one (i := .aload_n 1) (len := 1) (by decide +kernel) rfl,
   fun v1 v2 v3 st h Q => gx_one (i := .aload_n 0) (len := 1) (by decide +kernel) rfl,
   fun v0 v1 v2 x st h Q => gx_one (i := .iload_n 3) (len := 1) (by decide +kernel) rfl,
   fun v0 v1 v2 v3 st h Q => gx_one (i := .iconst 1) (len := 1) (by decide +kernel) rfl,
   fun v0 v1 v2 v3 x y st h Q => gx_one (i := .iadd) (len := 1) (by decide +kernel) rfl,
   fun v0 v1 v2 v3 x st h Q => gx_sald (by decide +kernel),
   fun v1 v2 v3 st h Q => gx_one (i := .aload_n 0) (len := 1) (by decide +kernel) rfl,
   fun v0 v1 v2 x st h Q => gx_one (i := .iload_n 3) (len := 1) (by decide +kernel) rfl,
   fun v0 v1 v2 v3 st h Q => gx_one (i := .iconst 2) (len := 1) (by decide +kernel) rfl,
   fun v0 v1 v2 v3 x y st h Q => gx_one (i := .iadd) (len := 1) (by decide +kernel) rfl,
   fun v0 v1 v2 v3 x st h Q => gx_sald (by decide +kernel),
   fun v1 v2 v3 st h Q => gx_one (i := .aload_n 0) (len := 1) (by decide +kernel) rfl,
   fun v0 v1 v2 x st h Q => gx_one (i := .iload_n 3) (len := 1) (by decide +kernel) rfl,
   fun v0 v1 v2 v3 st h Q => gx_one (i := .iconst 3) (len := 1) (by decide +kernel) rfl,
   fun v0 v1 v2 v3 x y st h Q => gx_one (i := .iadd) (len := 1) (by decide +kernel) rfl,
   fun v0 v1 v2 v3 x st h Q => gx_sald (by decide +kernel),
   fun v0 v1 v2 v3 a0 a1 a2 o h Q => gx_virt (x := 90) (n := 3) (by decide +kernel) (by decide +kernel) rfl (Or.inl (Nat.le_of_ble_eq_true rfl)) (by show _ ≤ mr_mxl 100; rw [show mr_mxl 100 = 4 from by decide +kernel]; exact Nat.le_of_ble_eq_true rfl) (by decide +kernel),
   fun v0 v1 v3 x st h Q => gx_one (i := .aload_n 2) (len := 1) (by decide +kernel) rfl,
   fun v1 v2 v3 st h Q => gx_one (i := .aload_n 0) (len := 1) (by decide +kernel) rfl,
   fun v0 v1 v2 x st h Q => gx_one (i := .iload_n 3) (len := 1) (by decide +kernel) rfl,
   fun v0 v1 v2 v3 st h Q => gx_one (i := .iconst 1) (len := 1) (by decide +kernel) rfl,
   fun v0 v1 v2 v3 x y st h Q => gx_one (i := .iadd) (len := 1) (by decide +kernel) rfl,
   fun v0 v1 v2 v3 x st h Q => gx_sald (by decide +kernel),
   fun v1 v2 v3 st h Q => gx_one (i := .aload_n 0) (len := 1) (by decide +kernel) rfl,
   fun v0 v1 v2 x st h Q => gx_one (i := .iload_n 3) (len := 1) (by decide +kernel) rfl,
   fun v0 v1 v2 v3 st h Q => gx_one (i := .iconst 2) (len := 1) (by decide +kernel) rfl,
   fun v0 v1 v2 v3 x y st h Q => gx_one (i := .iadd) (len := 1) (by decide +kernel) rfl,
   fun v0 v1 v2 v3 x st h Q => gx_sald (by decide +kernel),
   fun v1 v2 v3 st h Q => gx_one (i := .aload_n 0) (len := 1) (by decide +kernel) rfl,
   fun v0 v1 v2 x st h Q => gx_one (i := .iload_n 3) (len := 1) (by decide +kernel) rfl,
   fun v0 v1 v2 v3 st h Q => gx_one (i := .iconst 3) (len := 1) (by decide +kernel) rfl,
   fun v0 v1 v2 v3 x y st h Q => gx_one (i := .iadd) (len := 1) (by decide +kernel) rfl,
   fun v0 v1 v2 v3 x st h Q => gx_sald (by decide +kernel),
   fun v0 v1 v2 v3 a0 a1 a2 o r0 h Q => gx_virt (x := 93) (n := 3) (by decide +kernel) (by decide +kernel) rfl (Or.inl (Nat.le_of_ble_eq_true rfl)) (by show _ ≤ mr_mxl 172; rw [show mr_mxl 172 = 4 from by decide +kernel]; exact Nat.le_of_ble_eq_true rfl) (by decide +kernel)⟩
theorem S_law_law_12 : (∀ (v0 v1 v2 v3 : Value) (x : Int32) (y : Int32) (st : List Value) (h : mr_h) (Q : Option Value → mr_h → Prop), mr_wp 181 720 [v0, v1, v2, v3] (.int y :: .int x :: st) h Q = if x = y then mr_wp 181 843 [v0, v1, v2, v3] st h Q else mr_wp 181 723 [v0, v1, v2, v3] st h Q) ∧
    (∀ (v0 v1 v2 v3 : Value) (st : List Value) (h : mr_h) (Q : Option Value → mr_h → Prop), mr_wp 181 723 [v0, v1, v2, v3] st h Q = mr_wp 181 724 [v0, v1, v2, v3] (.int (0) :: st) h Q) ∧
    (∀ (v0 v1 v2 v3 : Value) (x : Int32) (h : mr_h) (Q : Option Value → mr_h → Prop) (hv : x &&& 1 = x), mr_wp 181 724 [v0, v1, v2, v3] [.int x] h Q = Q (some (.int x)) h) ∧
    (∀ (v0 v2 v3 : Value) (x : Nat) (st : List Value) (h : mr_h) (Q : Option Value → mr_h → Prop), mr_wp 181 725 [v0, .ref x, v2, v3] st h Q = mr_wp 181 726 [v0, .ref x, v2, v3] (.ref x :: st) h Q) ∧
    (∀ (v0 v1 v2 v3 : Value) (o : Nat) (h : mr_h) (Q : Option Value → mr_h → Prop), mr_wp 181 726 [v0, v1, v2, v3] [.ref o] h Q = mr_rc (h.1 o) 10 (mr_run 102 [.ref o] h (fun v h' => mr_wp 181 729 [v0, v1, v2, v3] (v.toList ++ []) h' Q))) ∧
    (∀ (v0 v1 v3 : Value) (x : Nat) (st : List Value) (h : mr_h) (Q : Option Value → mr_h → Prop), mr_wp 181 729 [v0, v1, .ref x, v3] st h Q = mr_wp 181 730 [v0, v1, .ref x, v3] (.ref x :: st) h Q) ∧
    (∀ (v0 v1 v2 v3 : Value) (o : Nat) (r0 : Value) (h : mr_h) (Q : Option Value → mr_h → Prop), mr_wp 181 730 [v0, v1, v2, v3] [.ref o, r0] h Q = mr_rc (h.1 o) 11 (mr_run 173 [.ref o] h (fun v h' => mr_wp 181 733 [v0, v1, v2, v3] (v.toList ++ [r0]) h' Q))) ∧
    (∀ (v0 v1 v2 v3 : Value) (x : Int32) (y : Int32) (st : List Value) (h : mr_h) (Q : Option Value → mr_h → Prop), mr_wp 181 733 [v0, v1, v2, v3] (.int y :: .int x :: st) h Q = if x = y then mr_wp 181 843 [v0, v1, v2, v3] st h Q else mr_wp 181 736 [v0, v1, v2, v3] st h Q) ∧
    (∀ (v0 v1 v2 v3 : Value) (st : List Value) (h : mr_h) (Q : Option Value → mr_h → Prop), mr_wp 181 736 [v0, v1, v2, v3] st h Q = mr_wp 181 737 [v0, v1, v2, v3] (.int (0) :: st) h Q) ∧
    (∀ (v0 v1 v2 v3 : Value) (x : Int32) (h : mr_h) (Q : Option Value → mr_h → Prop) (hv : x &&& 1 = x), mr_wp 181 737 [v0, v1, v2, v3] [.int x] h Q = Q (some (.int x)) h) ∧
    (∀ (v0 v2 v3 : Value) (x : Nat) (st : List Value) (h : mr_h) (Q : Option Value → mr_h → Prop), mr_wp 181 738 [v0, .ref x, v2, v3] st h Q = mr_wp 181 739 [v0, .ref x, v2, v3] (.ref x :: st) h Q) ∧
    (∀ (v1 v2 v3 : Value) (st : List Value) (h : mr_h) (Q : Option Value → mr_h → Prop), mr_wp 181 739 [.retAddr 0, v1, v2, v3] st h Q = mr_wp 181 740 [.retAddr 0, v1, v2, v3] (.retAddr 0 :: st) h Q) ∧
    (∀ (v0 v1 v2 : Value) (x : Int32) (st : List Value) (h : mr_h) (Q : Option Value → mr_h → Prop), mr_wp 181 740 [v0, v1, v2, .int x] st h Q = mr_wp 181 741 [v0, v1, v2, .int x] (.int x :: st) h Q) ∧
    (∀ (v0 v1 v2 v3 : Value) (st : List Value) (h : mr_h) (Q : Option Value → mr_h → Prop), mr_wp 181 741 [v0, v1, v2, v3] st h Q = mr_wp 181 742 [v0, v1, v2, v3] (.int (1) :: st) h Q) ∧
    (∀ (v0 v1 v2 v3 : Value) (x : Int32) (y : Int32) (st : List Value) (h : mr_h) (Q : Option Value → mr_h → Prop), mr_wp 181 742 [v0, v1, v2, v3] (.int y :: .int x :: st) h Q = mr_wp 181 743 [v0, v1, v2, v3] (.int (x + y) :: st) h Q) ∧
    (∀ (v0 v1 v2 v3 : Value) (x : Int32) (st : List Value) (h : mr_h) (Q : Option Value → mr_h → Prop), mr_wp 181 743 [v0, v1, v2, v3] (.int x :: .retAddr 0 :: st) h Q = if x < 0 ∨ h.2.2.2.1 ≤ x.toNatClampNeg then False else mr_wp 181 744 [v0, v1, v2, v3] (.int (h.2.2.2.2 x.toNatClampNeg) :: st) h Q) ∧
    (∀ (v0 v1 v2 v3 : Value) (a0 : Int32) (o : Nat) (h : mr_h) (Q : Option Value → mr_h → Prop), mr_wp 181 744 [v0, v1, v2, v3] [.int a0, .ref o] h Q = mr_rc (h.1 o) 10 (mr_run 103 [.ref o, .int a0] h (fun v h' => mr_wp 181 747 [v0, v1, v2, v3] (v.toList ++ []) h' Q))) ∧
    (∀ (v0 v1 v3 : Value) (x : Nat) (st : List Value) (h : mr_h) (Q : Option Value → mr_h → Prop), mr_wp 181 747 [v0, v1, .ref x, v3] st h Q = mr_wp 181 748 [v0, v1, .ref x, v3] (.ref x :: st) h Q) ∧
    (∀ (v1 v2 v3 : Value) (st : List Value) (h : mr_h) (Q : Option Value → mr_h → Prop), mr_wp 181 748 [.retAddr 0, v1, v2, v3] st h Q = mr_wp 181 749 [.retAddr 0, v1, v2, v3] (.retAddr 0 :: st) h Q) ∧
    (∀ (v0 v1 v2 : Value) (x : Int32) (st : List Value) (h : mr_h) (Q : Option Value → mr_h → Prop), mr_wp 181 749 [v0, v1, v2, .int x] st h Q = mr_wp 181 750 [v0, v1, v2, .int x] (.int x :: st) h Q) ∧
    (∀ (v0 v1 v2 v3 : Value) (st : List Value) (h : mr_h) (Q : Option Value → mr_h → Prop), mr_wp 181 750 [v0, v1, v2, v3] st h Q = mr_wp 181 751 [v0, v1, v2, v3] (.int (1) :: st) h Q) ∧
    (∀ (v0 v1 v2 v3 : Value) (x : Int32) (y : Int32) (st : List Value) (h : mr_h) (Q : Option Value → mr_h → Prop), mr_wp 181 751 [v0, v1, v2, v3] (.int y :: .int x :: st) h Q = mr_wp 181 752 [v0, v1, v2, v3] (.int (x + y) :: st) h Q) ∧
    (∀ (v0 v1 v2 v3 : Value) (x : Int32) (st : List Value) (h : mr_h) (Q : Option Value → mr_h → Prop), mr_wp 181 752 [v0, v1, v2, v3] (.int x :: .retAddr 0 :: st) h Q = if x < 0 ∨ h.2.2.2.1 ≤ x.toNatClampNeg then False else mr_wp 181 753 [v0, v1, v2, v3] (.int (h.2.2.2.2 x.toNatClampNeg) :: st) h Q) ∧
    (∀ (v0 v1 v2 v3 : Value) (a0 : Int32) (o : Nat) (r0 : Value) (h : mr_h) (Q : Option Value → mr_h → Prop), mr_wp 181 753 [v0, v1, v2, v3] [.int a0, .ref o, r0] h Q = mr_rc (h.1 o) 11 (mr_run 174 [.ref o, .int a0] h (fun v h' => mr_wp 181 756 [v0, v1, v2, v3] (v.toList ++ [r0]) h' Q))) ∧
    (∀ (v0 v1 v2 v3 : Value) (x : Int32) (y : Int32) (st : List Value) (h : mr_h) (Q : Option Value → mr_h → Prop), mr_wp 181 756 [v0, v1, v2, v3] (.int y :: .int x :: st) h Q = if x = y then mr_wp 181 843 [v0, v1, v2, v3] st h Q else mr_wp 181 759 [v0, v1, v2, v3] st h Q) ∧
    (∀ (v0 v1 v2 v3 : Value) (st : List Value) (h : mr_h) (Q : Option Value → mr_h → Prop), mr_wp 181 759 [v0, v1, v2, v3] st h Q = mr_wp 181 760 [v0, v1, v2, v3] (.int (0) :: st) h Q) ∧
    (∀ (v0 v1 v2 v3 : Value) (x : Int32) (h : mr_h) (Q : Option Value → mr_h → Prop) (hv : x &&& 1 = x), mr_wp 181 760 [v0, v1, v2, v3] [.int x] h Q = Q (some (.int x)) h) ∧
    (∀ (v0 v2 v3 : Value) (x : Nat) (st : List Value) (h : mr_h) (Q : Option Value → mr_h → Prop), mr_wp 181 761 [v0, .ref x, v2, v3] st h Q = mr_wp 181 762 [v0, .ref x, v2, v3] (.ref x :: st) h Q) ∧
    (∀ (v0 v1 v2 v3 : Value) (o : Nat) (h : mr_h) (Q : Option Value → mr_h → Prop), mr_wp 181 762 [v0, v1, v2, v3] [.ref o] h Q = mr_rc (h.1 o) 10 (mr_run 108 [.ref o] h (fun v h' => mr_wp 181 765 [v0, v1, v2, v3] (v.toList ++ []) h' Q))) ∧
    (∀ (v0 v1 v3 : Value) (x : Nat) (st : List Value) (h : mr_h) (Q : Option Value → mr_h → Prop), mr_wp 181 765 [v0, v1, .ref x, v3] st h Q = mr_wp 181 766 [v0, v1, .ref x, v3] (.ref x :: st) h Q) ∧
    (∀ (v0 v1 v2 v3 : Value) (o : Nat) (r0 : Value) (h : mr_h) (Q : Option Value → mr_h → Prop), mr_wp 181 766 [v0, v1, v2, v3] [.ref o, r0] h Q = mr_rc (h.1 o) 11 (mr_run 177 [.ref o] h (fun v h' => mr_wp 181 769 [v0, v1, v2, v3] (v.toList ++ [r0]) h' Q))) ∧
    (∀ (v0 v1 v2 v3 : Value) (x : Int32) (y : Int32) (st : List Value) (h : mr_h) (Q : Option Value → mr_h → Prop), mr_wp 181 769 [v0, v1, v2, v3] (.int y :: .int x :: st) h Q = if x = y then mr_wp 181 843 [v0, v1, v2, v3] st h Q else mr_wp 181 772 [v0, v1, v2, v3] st h Q) ∧
    (∀ (v0 v1 v2 v3 : Value) (st : List Value) (h : mr_h) (Q : Option Value → mr_h → Prop), mr_wp 181 772 [v0, v1, v2, v3] st h Q = mr_wp 181 773 [v0, v1, v2, v3] (.int (0) :: st) h Q) ∧
    (∀ (v0 v1 v2 v3 : Value) (x : Int32) (h : mr_h) (Q : Option Value → mr_h → Prop) (hv : x &&& 1 = x), mr_wp 181 773 [v0, v1, v2, v3] [.int x] h Q = Q (some (.int x)) h) ∧
    (∀ (v0 v2 v3 : Value) (x : Nat) (st : List Value) (h : mr_h) (Q : Option Value → mr_h → Prop), mr_wp 181 774 [v0, .ref x, v2, v3] st h Q = mr_wp 181 775 [v0, .ref x, v2, v3] (.ref x :: st) h Q) ∧
    (∀ (v1 v2 v3 : Value) (st : List Value) (h : mr_h) (Q : Option Value → mr_h → Prop), mr_wp 181 775 [.retAddr 0, v1, v2, v3] st h Q = mr_wp 181 776 [.retAddr 0, v1, v2, v3] (.retAddr 0 :: st) h Q) ∧
    (∀ (v0 v1 v2 : Value) (x : Int32) (st : List Value) (h : mr_h) (Q : Option Value → mr_h → Prop), mr_wp 181 776 [v0, v1, v2, .int x] st h Q = mr_wp 181 777 [v0, v1, v2, .int x] (.int x :: st) h Q) ∧
    (∀ (v0 v1 v2 v3 : Value) (st : List Value) (h : mr_h) (Q : Option Value → mr_h → Prop), mr_wp 181 777 [v0, v1, v2, v3] st h Q = mr_wp 181 778 [v0, v1, v2, v3] (.int (1) :: st) h Q) ∧
    (∀ (v0 v1 v2 v3 : Value) (x : Int32) (y : Int32) (st : List Value) (h : mr_h) (Q : Option Value → mr_h → Prop), mr_wp 181 778 [v0, v1, v2, v3] (.int y :: .int x :: st) h Q = mr_wp 181 779 [v0, v1, v2, v3] (.int (x + y) :: st) h Q) ∧
    (∀ (v0 v1 v2 v3 : Value) (x : Int32) (st : List Value) (h : mr_h) (Q : Option Value → mr_h → Prop), mr_wp 181 779 [v0, v1, v2, v3] (.int x :: .retAddr 0 :: st) h Q = if x < 0 ∨ h.2.2.2.1 ≤ x.toNatClampNeg then False else mr_wp 181 780 [v0, v1, v2, v3] (.int (h.2.2.2.2 x.toNatClampNeg) :: st) h Q) :=
  ⟨fun v0 v1 v2 v3 x y st h Q => gx_br (i := .if_icmp .eq 123) (len := 3) (c := .eq) (by decide +kernel) rfl rfl,
   fun v0 v1 v2 v3 st h Q => gx_one (i := .iconst 0) (len := 1) (by decide +kernel) rfl,
   fun v0 v1 v2 v3 x h Q hv => gx_ret (i := .ireturn) (len := 1) (by decide +kernel) rfl rfl (by simp only [mr_rt, if_pos]; rw [if_pos (Or.inr ⟨by decide +kernel, hv⟩)]),
   fun v0 v2 v3 x st h Q => gx_one (i := .aload_n 1) (len := 1) (by decide +kernel) rfl,
   fun v0 v1 v2 v3 o h Q => gx_virt (x := 94) (n := 0) (by decide +kernel) (by decide +kernel) rfl (Or.inl (Nat.le_of_ble_eq_true rfl)) (by show _ ≤ mr_mxl 102; rw [show mr_mxl 102 = 2 from by decide +kernel]; exact Nat.le_of_ble_eq_true rfl) (by decide +kernel),
   fun v0 v1 v3 x st h Q => gx_one (i := .aload_n 2) (len := 1) (by decide +kernel) rfl,
   fun v0 v1 v2 v3 o r0 h Q => gx_virt (x := 97) (n := 0) (by decide +kernel) (by decide +kernel) rfl (Or.inl (Nat.le_of_ble_eq_true rfl)) (by show _ ≤ mr_mxl 173; rw [show mr_mxl 173 = 2 from by decide +kernel]; exact Nat.le_of_ble_eq_true rfl) (by decide +kernel),
   fun v0 v1 v2 v3 x y st h Q => gx_br (i := .if_icmp .eq 110) (len := 3) (c := .eq) (by decide +kernel) rfl rfl,
   fun v0 v1 v2 v3 st h Q => gx_one (i := .iconst 0) (len := 1) (by decide +kernel) rfl,
   fun v0 v1 v2 v3 x h Q hv => gx_ret (i := .ireturn) (len := 1) (by decide +kernel) rfl rfl (by simp only [mr_rt, if_pos]; rw [if_pos (Or.inr ⟨by decide +kernel, hv⟩)]),
   fun v0 v2 v3 x st h Q => gx_one (i := .aload_n 1) (len := 1) (by decide +kernel) rfl,
   fun v1 v2 v3 st h Q => gx_one (i := .aload_n 0) (len := 1) (by decide +kernel) rfl,
   fun v0 v1 v2 x st h Q => gx_one (i := .iload_n 3) (len := 1) (by decide +kernel) rfl,
   fun v0 v1 v2 v3 st h Q => gx_one (i := .iconst 1) (len := 1) (by decide +kernel) rfl,
   fun v0 v1 v2 v3 x y st h Q => gx_one (i := .iadd) (len := 1) (by decide +kernel) rfl,
   fun v0 v1 v2 v3 x st h Q => gx_sald (by decide +kernel),
   fun v0 v1 v2 v3 a0 o h Q => gx_virt (x := 98) (n := 1) (by decide +kernel) (by decide +kernel) rfl (Or.inl (Nat.le_of_ble_eq_true rfl)) (by show _ ≤ mr_mxl 103; rw [show mr_mxl 103 = 2 from by decide +kernel]; exact Nat.le_of_ble_eq_true rfl) (by decide +kernel),
   fun v0 v1 v3 x st h Q => gx_one (i := .aload_n 2) (len := 1) (by decide +kernel) rfl,
   fun v1 v2 v3 st h Q => gx_one (i := .aload_n 0) (len := 1) (by decide +kernel) rfl,
   fun v0 v1 v2 x st h Q => gx_one (i := .iload_n 3) (len := 1) (by decide +kernel) rfl,
   fun v0 v1 v2 v3 st h Q => gx_one (i := .iconst 1) (len := 1) (by decide +kernel) rfl,
   fun v0 v1 v2 v3 x y st h Q => gx_one (i := .iadd) (len := 1) (by decide +kernel) rfl,
   fun v0 v1 v2 v3 x st h Q => gx_sald (by decide +kernel),
   fun v0 v1 v2 v3 a0 o r0 h Q => gx_virt (x := 101) (n := 1) (by decide +kernel) (by decide +kernel) rfl (Or.inl (Nat.le_of_ble_eq_true rfl)) (by show _ ≤ mr_mxl 174; rw [show mr_mxl 174 = 3 from by decide +kernel]; exact Nat.le_of_ble_eq_true rfl) (by decide +kernel),
   fun v0 v1 v2 v3 x y st h Q => gx_br (i := .if_icmp .eq 87) (len := 3) (c := .eq) (by decide +kernel) rfl rfl,
   fun v0 v1 v2 v3 st h Q => gx_one (i := .iconst 0) (len := 1) (by decide +kernel) rfl,
   fun v0 v1 v2 v3 x h Q hv => gx_ret (i := .ireturn) (len := 1) (by decide +kernel) rfl rfl (by simp only [mr_rt, if_pos]; rw [if_pos (Or.inr ⟨by decide +kernel, hv⟩)]),
   fun v0 v2 v3 x st h Q => gx_one (i := .aload_n 1) (len := 1) (by decide +kernel) rfl,
   fun v0 v1 v2 v3 o h Q => gx_virt (x := 102) (n := 0) (by decide +kernel) (by decide +kernel) rfl (Or.inl (Nat.le_of_ble_eq_true rfl)) (by show _ ≤ mr_mxl 108; rw [show mr_mxl 108 = 1 from by decide +kernel]; exact Nat.le_of_ble_eq_true rfl) (by decide +kernel),
   fun v0 v1 v3 x st h Q => gx_one (i := .aload_n 2) (len := 1) (by decide +kernel) rfl,
   fun v0 v1 v2 v3 o r0 h Q => gx_virt (x := 105) (n := 0) (by decide +kernel) (by decide +kernel) rfl (Or.inl (Nat.le_of_ble_eq_true rfl)) (by show _ ≤ mr_mxl 177; rw [show mr_mxl 177 = 8 from by decide +kernel]; exact Nat.le_of_ble_eq_true rfl) (by decide +kernel),
   fun v0 v1 v2 v3 x y st h Q => gx_br (i := .if_icmp .eq 74) (len := 3) (c := .eq) (by decide +kernel) rfl rfl,
   fun v0 v1 v2 v3 st h Q => gx_one (i := .iconst 0) (len := 1) (by decide +kernel) rfl,
   fun v0 v1 v2 v3 x h Q hv => gx_ret (i := .ireturn) (len := 1) (by decide +kernel) rfl rfl (by simp only [mr_rt, if_pos]; rw [if_pos (Or.inr ⟨by decide +kernel, hv⟩)]),
   fun v0 v2 v3 x st h Q => gx_one (i := .aload_n 1) (len := 1) (by decide +kernel) rfl,
   fun v1 v2 v3 st h Q => gx_one (i := .aload_n 0) (len := 1) (by decide +kernel) rfl,
   fun v0 v1 v2 x st h Q => gx_one (i := .iload_n 3) (len := 1) (by decide +kernel) rfl,
   fun v0 v1 v2 v3 st h Q => gx_one (i := .iconst 1) (len := 1) (by decide +kernel) rfl,
   fun v0 v1 v2 v3 x y st h Q => gx_one (i := .iadd) (len := 1) (by decide +kernel) rfl,
   fun v0 v1 v2 v3 x st h Q => gx_sald (by decide +kernel)⟩
theorem S_law_law_13 : (∀ (v0 v1 v2 v3 : Value) (a0 : Int32) (o : Nat) (h : mr_h) (Q : Option Value → mr_h → Prop), mr_wp 181 780 [v0, v1, v2, v3] [.int a0, .ref o] h Q = mr_rc (h.1 o) 10 (mr_run 111 [.ref o, .int a0] h (fun v h' => mr_wp 181 783 [v0, v1, v2, v3] (v.toList ++ []) h' Q))) ∧
    (∀ (v0 v1 v3 : Value) (x : Nat) (st : List Value) (h : mr_h) (Q : Option Value → mr_h → Prop), mr_wp 181 783 [v0, v1, .ref x, v3] st h Q = mr_wp 181 784 [v0, v1, .ref x, v3] (.ref x :: st) h Q) ∧
    (∀ (v1 v2 v3 : Value) (st : List Value) (h : mr_h) (Q : Option Value → mr_h → Prop), mr_wp 181 784 [.retAddr 0, v1, v2, v3] st h Q = mr_wp 181 785 [.retAddr 0, v1, v2, v3] (.retAddr 0 :: st) h Q) ∧
    (∀ (v0 v1 v2 : Value) (x : Int32) (st : List Value) (h : mr_h) (Q : Option Value → mr_h → Prop), mr_wp 181 785 [v0, v1, v2, .int x] st h Q = mr_wp 181 786 [v0, v1, v2, .int x] (.int x :: st) h Q) ∧
    (∀ (v0 v1 v2 v3 : Value) (st : List Value) (h : mr_h) (Q : Option Value → mr_h → Prop), mr_wp 181 786 [v0, v1, v2, v3] st h Q = mr_wp 181 787 [v0, v1, v2, v3] (.int (1) :: st) h Q) ∧
    (∀ (v0 v1 v2 v3 : Value) (x : Int32) (y : Int32) (st : List Value) (h : mr_h) (Q : Option Value → mr_h → Prop), mr_wp 181 787 [v0, v1, v2, v3] (.int y :: .int x :: st) h Q = mr_wp 181 788 [v0, v1, v2, v3] (.int (x + y) :: st) h Q) ∧
    (∀ (v0 v1 v2 v3 : Value) (x : Int32) (st : List Value) (h : mr_h) (Q : Option Value → mr_h → Prop), mr_wp 181 788 [v0, v1, v2, v3] (.int x :: .retAddr 0 :: st) h Q = if x < 0 ∨ h.2.2.2.1 ≤ x.toNatClampNeg then False else mr_wp 181 789 [v0, v1, v2, v3] (.int (h.2.2.2.2 x.toNatClampNeg) :: st) h Q) ∧
    (∀ (v0 v1 v2 v3 : Value) (a0 : Int32) (o : Nat) (r0 : Value) (h : mr_h) (Q : Option Value → mr_h → Prop), mr_wp 181 789 [v0, v1, v2, v3] [.int a0, .ref o, r0] h Q = mr_rc (h.1 o) 11 (mr_run 178 [.ref o, .int a0] h (fun v h' => mr_wp 181 792 [v0, v1, v2, v3] (v.toList ++ [r0]) h' Q))) ∧
    (∀ (v0 v1 v2 v3 : Value) (x : Int32) (y : Int32) (st : List Value) (h : mr_h) (Q : Option Value → mr_h → Prop), mr_wp 181 792 [v0, v1, v2, v3] (.int y :: .int x :: st) h Q = if x = y then mr_wp 181 843 [v0, v1, v2, v3] st h Q else mr_wp 181 795 [v0, v1, v2, v3] st h Q) ∧
    (∀ (v0 v1 v2 v3 : Value) (st : List Value) (h : mr_h) (Q : Option Value → mr_h → Prop), mr_wp 181 795 [v0, v1, v2, v3] st h Q = mr_wp 181 796 [v0, v1, v2, v3] (.int (0) :: st) h Q) ∧
    (∀ (v0 v1 v2 v3 : Value) (x : Int32) (h : mr_h) (Q : Option Value → mr_h → Prop) (hv : x &&& 1 = x), mr_wp 181 796 [v0, v1, v2, v3] [.int x] h Q = Q (some (.int x)) h) ∧
    (∀ (v0 v2 v3 : Value) (x : Nat) (st : List Value) (h : mr_h) (Q : Option Value → mr_h → Prop), mr_wp 181 797 [v0, .ref x, v2, v3] st h Q = mr_wp 181 798 [v0, .ref x, v2, v3] (.ref x :: st) h Q) ∧
    (∀ (v1 v2 v3 : Value) (st : List Value) (h : mr_h) (Q : Option Value → mr_h → Prop), mr_wp 181 798 [.retAddr 0, v1, v2, v3] st h Q = mr_wp 181 799 [.retAddr 0, v1, v2, v3] (.retAddr 0 :: st) h Q) ∧
    (∀ (v0 v1 v2 : Value) (x : Int32) (st : List Value) (h : mr_h) (Q : Option Value → mr_h → Prop), mr_wp 181 799 [v0, v1, v2, .int x] st h Q = mr_wp 181 800 [v0, v1, v2, .int x] (.int x :: st) h Q) ∧
    (∀ (v0 v1 v2 v3 : Value) (st : List Value) (h : mr_h) (Q : Option Value → mr_h → Prop), mr_wp 181 800 [v0, v1, v2, v3] st h Q = mr_wp 181 801 [v0, v1, v2, v3] (.int (1) :: st) h Q) ∧
    (∀ (v0 v1 v2 v3 : Value) (x : Int32) (y : Int32) (st : List Value) (h : mr_h) (Q : Option Value → mr_h → Prop), mr_wp 181 801 [v0, v1, v2, v3] (.int y :: .int x :: st) h Q = mr_wp 181 802 [v0, v1, v2, v3] (.int (x + y) :: st) h Q) ∧
    (∀ (v0 v1 v2 v3 : Value) (x : Int32) (st : List Value) (h : mr_h) (Q : Option Value → mr_h → Prop), mr_wp 181 802 [v0, v1, v2, v3] (.int x :: .retAddr 0 :: st) h Q = if x < 0 ∨ h.2.2.2.1 ≤ x.toNatClampNeg then False else mr_wp 181 803 [v0, v1, v2, v3] (.int (h.2.2.2.2 x.toNatClampNeg) :: st) h Q) ∧
    (∀ (v0 v1 v2 v3 : Value) (a0 : Int32) (o : Nat) (h : mr_h) (Q : Option Value → mr_h → Prop), mr_wp 181 803 [v0, v1, v2, v3] [.int a0, .ref o] h Q = mr_rc (h.1 o) 10 (mr_run 113 [.ref o, .int a0] h (fun v h' => mr_wp 181 806 [v0, v1, v2, v3] (v.toList ++ []) h' Q))) ∧
    (∀ (v0 v1 v3 : Value) (x : Nat) (st : List Value) (h : mr_h) (Q : Option Value → mr_h → Prop), mr_wp 181 806 [v0, v1, .ref x, v3] st h Q = mr_wp 181 807 [v0, v1, .ref x, v3] (.ref x :: st) h Q) ∧
    (∀ (v1 v2 v3 : Value) (st : List Value) (h : mr_h) (Q : Option Value → mr_h → Prop), mr_wp 181 807 [.retAddr 0, v1, v2, v3] st h Q = mr_wp 181 808 [.retAddr 0, v1, v2, v3] (.retAddr 0 :: st) h Q) ∧
    (∀ (v0 v1 v2 : Value) (x : Int32) (st : List Value) (h : mr_h) (Q : Option Value → mr_h → Prop), mr_wp 181 808 [v0, v1, v2, .int x] st h Q = mr_wp 181 809 [v0, v1, v2, .int x] (.int x :: st) h Q) ∧
    (∀ (v0 v1 v2 v3 : Value) (st : List Value) (h : mr_h) (Q : Option Value → mr_h → Prop), mr_wp 181 809 [v0, v1, v2, v3] st h Q = mr_wp 181 810 [v0, v1, v2, v3] (.int (1) :: st) h Q) ∧
    (∀ (v0 v1 v2 v3 : Value) (x : Int32) (y : Int32) (st : List Value) (h : mr_h) (Q : Option Value → mr_h → Prop), mr_wp 181 810 [v0, v1, v2, v3] (.int y :: .int x :: st) h Q = mr_wp 181 811 [v0, v1, v2, v3] (.int (x + y) :: st) h Q) ∧
    (∀ (v0 v1 v2 v3 : Value) (x : Int32) (st : List Value) (h : mr_h) (Q : Option Value → mr_h → Prop), mr_wp 181 811 [v0, v1, v2, v3] (.int x :: .retAddr 0 :: st) h Q = if x < 0 ∨ h.2.2.2.1 ≤ x.toNatClampNeg then False else mr_wp 181 812 [v0, v1, v2, v3] (.int (h.2.2.2.2 x.toNatClampNeg) :: st) h Q) ∧
    (∀ (v0 v1 v2 v3 : Value) (a0 : Int32) (o : Nat) (r0 : Value) (h : mr_h) (Q : Option Value → mr_h → Prop), mr_wp 181 812 [v0, v1, v2, v3] [.int a0, .ref o, r0] h Q = mr_rc (h.1 o) 11 (mr_run 179 [.ref o, .int a0] h (fun v h' => mr_wp 181 815 [v0, v1, v2, v3] (v.toList ++ [r0]) h' Q))) ∧
    (∀ (v0 v1 v2 v3 : Value) (x : Int32) (y : Int32) (st : List Value) (h : mr_h) (Q : Option Value → mr_h → Prop), mr_wp 181 815 [v0, v1, v2, v3] (.int y :: .int x :: st) h Q = if x = y then mr_wp 181 843 [v0, v1, v2, v3] st h Q else mr_wp 181 818 [v0, v1, v2, v3] st h Q) ∧
    (∀ (v0 v1 v2 v3 : Value) (st : List Value) (h : mr_h) (Q : Option Value → mr_h → Prop), mr_wp 181 818 [v0, v1, v2, v3] st h Q = mr_wp 181 819 [v0, v1, v2, v3] (.int (0) :: st) h Q) ∧
    (∀ (v0 v1 v2 v3 : Value) (x : Int32) (h : mr_h) (Q : Option Value → mr_h → Prop) (hv : x &&& 1 = x), mr_wp 181 819 [v0, v1, v2, v3] [.int x] h Q = Q (some (.int x)) h) ∧
    (∀ (v0 v2 v3 : Value) (x : Nat) (st : List Value) (h : mr_h) (Q : Option Value → mr_h → Prop), mr_wp 181 820 [v0, .ref x, v2, v3] st h Q = mr_wp 181 821 [v0, .ref x, v2, v3] (.ref x :: st) h Q) ∧
    (∀ (v1 v2 v3 : Value) (st : List Value) (h : mr_h) (Q : Option Value → mr_h → Prop), mr_wp 181 821 [.retAddr 0, v1, v2, v3] st h Q = mr_wp 181 822 [.retAddr 0, v1, v2, v3] (.retAddr 0 :: st) h Q) ∧
    (∀ (v0 v1 v2 : Value) (x : Int32) (st : List Value) (h : mr_h) (Q : Option Value → mr_h → Prop), mr_wp 181 822 [v0, v1, v2, .int x] st h Q = mr_wp 181 823 [v0, v1, v2, .int x] (.int x :: st) h Q) ∧
    (∀ (v0 v1 v2 v3 : Value) (st : List Value) (h : mr_h) (Q : Option Value → mr_h → Prop), mr_wp 181 823 [v0, v1, v2, v3] st h Q = mr_wp 181 824 [v0, v1, v2, v3] (.int (1) :: st) h Q) ∧
    (∀ (v0 v1 v2 v3 : Value) (x : Int32) (y : Int32) (st : List Value) (h : mr_h) (Q : Option Value → mr_h → Prop), mr_wp 181 824 [v0, v1, v2, v3] (.int y :: .int x :: st) h Q = mr_wp 181 825 [v0, v1, v2, v3] (.int (x + y) :: st) h Q) ∧
    (∀ (v0 v1 v2 v3 : Value) (x : Int32) (st : List Value) (h : mr_h) (Q : Option Value → mr_h → Prop), mr_wp 181 825 [v0, v1, v2, v3] (.int x :: .retAddr 0 :: st) h Q = if x < 0 ∨ h.2.2.2.1 ≤ x.toNatClampNeg then False else mr_wp 181 826 [v0, v1, v2, v3] (.int (h.2.2.2.2 x.toNatClampNeg) :: st) h Q) ∧
    (∀ (v0 v1 v2 v3 : Value) (a0 : Int32) (o : Nat) (h : mr_h) (Q : Option Value → mr_h → Prop), mr_wp 181 826 [v0, v1, v2, v3] [.int a0, .ref o] h Q = mr_rc (h.1 o) 10 (mr_run 115 [.ref o, .int a0] h (fun v h' => mr_wp 181 829 [v0, v1, v2, v3] (v.toList ++ []) h' Q))) ∧
    (∀ (v0 v1 v3 : Value) (x : Nat) (st : List Value) (h : mr_h) (Q : Option Value → mr_h → Prop), mr_wp 181 829 [v0, v1, .ref x, v3] st h Q = mr_wp 181 830 [v0, v1, .ref x, v3] (.ref x :: st) h Q) ∧
    (∀ (v1 v2 v3 : Value) (st : List Value) (h : mr_h) (Q : Option Value → mr_h → Prop), mr_wp 181 830 [.retAddr 0, v1, v2, v3] st h Q = mr_wp 181 831 [.retAddr 0, v1, v2, v3] (.retAddr 0 :: st) h Q) ∧
    (∀ (v0 v1 v2 : Value) (x : Int32) (st : List Value) (h : mr_h) (Q : Option Value → mr_h → Prop), mr_wp 181 831 [v0, v1, v2, .int x] st h Q = mr_wp 181 832 [v0, v1, v2, .int x] (.int x :: st) h Q) ∧
    (∀ (v0 v1 v2 v3 : Value) (st : List Value) (h : mr_h) (Q : Option Value → mr_h → Prop), mr_wp 181 832 [v0, v1, v2, v3] st h Q = mr_wp 181 833 [v0, v1, v2, v3] (.int (1) :: st) h Q) ∧
    (∀ (v0 v1 v2 v3 : Value) (x : Int32) (y : Int32) (st : List Value) (h : mr_h) (Q : Option Value → mr_h → Prop), mr_wp 181 833 [v0, v1, v2, v3] (.int y :: .int x :: st) h Q = mr_wp 181 834 [v0, v1, v2, v3] (.int (x + y) :: st) h Q) :=
  ⟨fun v0 v1 v2 v3 a0 o h Q => gx_virt (x := 106) (n := 1) (by decide +kernel) (by decide +kernel) rfl (Or.inl (Nat.le_of_ble_eq_true rfl)) (by show _ ≤ mr_mxl 111; rw [show mr_mxl 111 = 2 from by decide +kernel]; exact Nat.le_of_ble_eq_true rfl) (by decide +kernel),
   fun v0 v1 v3 x st h Q => gx_one (i := .aload_n 2) (len := 1) (by decide +kernel) rfl,
   fun v1 v2 v3 st h Q => gx_one (i := .aload_n 0) (len := 1) (by decide +kernel) rfl,
   fun v0 v1 v2 x st h Q => gx_one (i := .iload_n 3) (len := 1) (by decide +kernel) rfl,
   fun v0 v1 v2 v3 st h Q => gx_one (i := .iconst 1) (len := 1) (by decide +kernel) rfl,
   fun v0 v1 v2 v3 x y st h Q => gx_one (i := .iadd) (len := 1) (by decide +kernel) rfl,
   fun v0 v1 v2 v3 x st h Q => gx_sald (by decide +kernel),
   fun v0 v1 v2 v3 a0 o r0 h Q => gx_virt (x := 109) (n := 1) (by decide +kernel) (by decide +kernel) rfl (Or.inl (Nat.le_of_ble_eq_true rfl)) (by show _ ≤ mr_mxl 178; rw [show mr_mxl 178 = 3 from by decide +kernel]; exact Nat.le_of_ble_eq_true rfl) (by decide +kernel),
   fun v0 v1 v2 v3 x y st h Q => gx_br (i := .if_icmp .eq 51) (len := 3) (c := .eq) (by decide +kernel) rfl rfl,
   fun v0 v1 v2 v3 st h Q => gx_one (i := .iconst 0) (len := 1) (by decide +kernel) rfl,
   fun v0 v1 v2 v3 x h Q hv => gx_ret (i := .ireturn) (len := 1) (by decide +kernel) rfl rfl (by simp only [mr_rt, if_pos]; rw [if_pos (Or.inr ⟨by decide +kernel, hv⟩)]),
   fun v0 v2 v3 x st h Q => gx_one (i := .aload_n 1) (len := 1) (by decide +kernel) rfl,
   fun v1 v2 v3 st h Q => gx_one (i := .aload_n 0) (len := 1) (by decide +kernel) rfl,
   fun v0 v1 v2 x st h Q => gx_one (i := .iload_n 3) (len := 1) (by decide +kernel) rfl,
   fun v0 v1 v2 v3 st h Q => gx_one (i := .iconst 1) (len := 1) (by decide +kernel) rfl,
   fun v0 v1 v2 v3 x y st h Q => gx_one (i := .iadd) (len := 1) (by decide +kernel) rfl,
   fun v0 v1 v2 v3 x st h Q => gx_sald (by decide +kernel),
   fun v0 v1 v2 v3 a0 o h Q => gx_virt (x := 110) (n := 1) (by decide +kernel) (by decide +kernel) rfl (Or.inl (Nat.le_of_ble_eq_true rfl)) (by show _ ≤ mr_mxl 113; rw [show mr_mxl 113 = 2 from by decide +kernel]; exact Nat.le_of_ble_eq_true rfl) (by decide +kernel),
   fun v0 v1 v3 x st h Q => gx_one (i := .aload_n 2) (len := 1) (by decide +kernel) rfl,
   fun v1 v2 v3 st h Q => gx_one (i := .aload_n 0) (len := 1) (by decide +kernel) rfl,
   fun v0 v1 v2 x st h Q => gx_one (i := .iload_n 3) (len := 1) (by decide +kernel) rfl,
   fun v0 v1 v2 v3 st h Q => gx_one (i := .iconst 1) (len := 1) (by decide +kernel) rfl,
   fun v0 v1 v2 v3 x y st h Q => gx_one (i := .iadd) (len := 1) (by decide +kernel) rfl,
   fun v0 v1 v2 v3 x st h Q => gx_sald (by decide +kernel),
   fun v0 v1 v2 v3 a0 o r0 h Q => gx_virt (x := 113) (n := 1) (by decide +kernel) (by decide +kernel) rfl (Or.inl (Nat.le_of_ble_eq_true rfl)) (by show _ ≤ mr_mxl 179; rw [show mr_mxl 179 = 3 from by decide +kernel]; exact Nat.le_of_ble_eq_true rfl) (by decide +kernel),
   fun v0 v1 v2 v3 x y st h Q => gx_br (i := .if_icmp .eq 28) (len := 3) (c := .eq) (by decide +kernel) rfl rfl,
   fun v0 v1 v2 v3 st h Q => gx_one (i := .iconst 0) (len := 1) (by decide +kernel) rfl,
   fun v0 v1 v2 v3 x h Q hv => gx_ret (i := .ireturn) (len := 1) (by decide +kernel) rfl rfl (by simp only [mr_rt, if_pos]; rw [if_pos (Or.inr ⟨by decide +kernel, hv⟩)]),
   fun v0 v2 v3 x st h Q => gx_one (i := .aload_n 1) (len := 1) (by decide +kernel) rfl,
   fun v1 v2 v3 st h Q => gx_one (i := .aload_n 0) (len := 1) (by decide +kernel) rfl,
   fun v0 v1 v2 x st h Q => gx_one (i := .iload_n 3) (len := 1) (by decide +kernel) rfl,
   fun v0 v1 v2 v3 st h Q => gx_one (i := .iconst 1) (len := 1) (by decide +kernel) rfl,
   fun v0 v1 v2 v3 x y st h Q => gx_one (i := .iadd) (len := 1) (by decide +kernel) rfl,
   fun v0 v1 v2 v3 x st h Q => gx_sald (by decide +kernel),
   fun v0 v1 v2 v3 a0 o h Q => gx_virt (x := 114) (n := 1) (by decide +kernel) (by decide +kernel) rfl (Or.inl (Nat.le_of_ble_eq_true rfl)) (by show _ ≤ mr_mxl 115; rw [show mr_mxl 115 = 2 from by decide +kernel]; exact Nat.le_of_ble_eq_true rfl) (by decide +kernel),
   fun v0 v1 v3 x st h Q => gx_one (i := .aload_n 2) (len := 1) (by decide +kernel) rfl,
   fun v1 v2 v3 st h Q => gx_one (i := .aload_n 0) (len := 1) (by decide +kernel) rfl,
   fun v0 v1 v2 x st h Q => gx_one (i := .iload_n 3) (len := 1) (by decide +kernel) rfl,
   fun v0 v1 v2 v3 st h Q => gx_one (i := .iconst 1) (len := 1) (by decide +kernel) rfl,
   fun v0 v1 v2 v3 x y st h Q => gx_one (i := .iadd) (len := 1) (by decide +kernel) rfl⟩
theorem S_law_law_14 : (∀ (v0 v1 v2 v3 : Value) (x : Int32) (st : List Value) (h : mr_h) (Q : Option Value → mr_h → Prop), mr_wp 181 834 [v0, v1, v2, v3] (.int x :: .retAddr 0 :: st) h Q = if x < 0 ∨ h.2.2.2.1 ≤ x.toNatClampNeg then False else mr_wp 181 835 [v0, v1, v2, v3] (.int (h.2.2.2.2 x.toNatClampNeg) :: st) h Q) ∧
    (∀ (v0 v1 v2 v3 : Value) (a0 : Int32) (o : Nat) (r0 : Value) (h : mr_h) (Q : Option Value → mr_h → Prop), mr_wp 181 835 [v0, v1, v2, v3] [.int a0, .ref o, r0] h Q = mr_rc (h.1 o) 11 (mr_run 180 [.ref o, .int a0] h (fun v h' => mr_wp 181 838 [v0, v1, v2, v3] (v.toList ++ [r0]) h' Q))) ∧
    (∀ (v0 v1 v2 v3 : Value) (x : Int32) (y : Int32) (st : List Value) (h : mr_h) (Q : Option Value → mr_h → Prop), mr_wp 181 838 [v0, v1, v2, v3] (.int y :: .int x :: st) h Q = if x = y then mr_wp 181 843 [v0, v1, v2, v3] st h Q else mr_wp 181 841 [v0, v1, v2, v3] st h Q) ∧
    (∀ (v0 v1 v2 v3 : Value) (st : List Value) (h : mr_h) (Q : Option Value → mr_h → Prop), mr_wp 181 841 [v0, v1, v2, v3] st h Q = mr_wp 181 842 [v0, v1, v2, v3] (.int (0) :: st) h Q) ∧
    (∀ (v0 v1 v2 v3 : Value) (x : Int32) (h : mr_h) (Q : Option Value → mr_h → Prop) (hv : x &&& 1 = x), mr_wp 181 842 [v0, v1, v2, v3] [.int x] h Q = Q (some (.int x)) h) ∧
    (∀ (v0 v1 : Value) (x : Int32) (w2 : Nat) (st : List Value) (h : mr_h) (Q : Option Value → mr_h → Prop), mr_wp 181 843 [v0, v1, .ref w2, .int x] st h Q = mr_wp 181 846 [v0, v1, .ref w2, .int (x + (5))] st h Q) ∧
    (∀ (v0 v1 v2 v3 : Value) (st : List Value) (h : mr_h) (Q : Option Value → mr_h → Prop), mr_wp 181 846 [v0, v1, v2, v3] st h Q = mr_wp 181 18 [v0, v1, v2, v3] st h Q) ∧
    (∀ (v0 v1 v2 v3 : Value) (st : List Value) (h : mr_h) (Q : Option Value → mr_h → Prop), mr_wp 181 849 [v0, v1, v2, v3] st h Q = mr_wp 181 850 [v0, v1, v2, v3] (.int (1) :: st) h Q) ∧
    (∀ (v0 v1 v2 v3 : Value) (x : Int32) (h : mr_h) (Q : Option Value → mr_h → Prop) (hv : x &&& 1 = x), mr_wp 181 850 [v0, v1, v2, v3] [.int x] h Q = Q (some (.int x)) h) :=
  ⟨fun v0 v1 v2 v3 x st h Q => gx_sald (by decide +kernel),
   fun v0 v1 v2 v3 a0 o r0 h Q => gx_virt (x := 117) (n := 1) (by decide +kernel) (by decide +kernel) rfl (Or.inl (Nat.le_of_ble_eq_true rfl)) (by show _ ≤ mr_mxl 180; rw [show mr_mxl 180 = 2 from by decide +kernel]; exact Nat.le_of_ble_eq_true rfl) (by decide +kernel),
   fun v0 v1 v2 v3 x y st h Q => gx_br (i := .if_icmp .eq 5) (len := 3) (c := .eq) (by decide +kernel) rfl rfl,
   fun v0 v1 v2 v3 st h Q => gx_one (i := .iconst 0) (len := 1) (by decide +kernel) rfl,
   fun v0 v1 v2 v3 x h Q hv => gx_ret (i := .ireturn) (len := 1) (by decide +kernel) rfl rfl (by simp only [mr_rt, if_pos]; rw [if_pos (Or.inr ⟨by decide +kernel, hv⟩)]),
   fun v0 v1 x w2 st h Q => gx_one (i := .iinc 3 5) (len := 3) (by decide +kernel) rfl,
   fun v0 v1 v2 v3 st h Q => gx_one (i := .goto (-828)) (len := 3) (by decide +kernel) rfl,
   fun v0 v1 v2 v3 st h Q => gx_one (i := .iconst 1) (len := 1) (by decide +kernel) rfl,
   fun v0 v1 v2 v3 x h Q hv => gx_ret (i := .ireturn) (len := 1) (by decide +kernel) rfl rfl (by simp only [mr_rt, if_pos]; rw [if_pos (Or.inr ⟨by decide +kernel, hv⟩)])⟩

