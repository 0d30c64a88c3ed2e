/-! the entry of each method -/
theorem r_rl_init (a0 : Nat) (h : mr_h) (Q : Option Value → mr_h → Prop) : mr_run 0 [.ref a0] h Q = mr_wp 0 0 [.ref a0] [] h Q := by
  show mr_wp _ _ (mr_ent _ (mr_mxl 0)) _ _ _ = _
  rw [show mr_mxl 0 = 1 from by decide +kernel]
  rfl
theorem r_ne_init (a0 : Nat) (h : mr_h) (Q : Option Value → mr_h → Prop) : mr_run 1 [.ref a0] h Q = mr_wp 1 0 [.ref a0] [] h Q := by
  show mr_wp _ _ (mr_ent _ (mr_mxl 1)) _ _ _ = _
  rw [show mr_mxl 1 = 1 from by decide +kernel]
  rfl
theorem r_ne_startAnew (a0 : Nat) (h : mr_h) (Q : Option Value → mr_h → Prop) : mr_run 2 [.ref a0] h Q = mr_wp 2 0 [.ref a0, .null] [] h Q := by
  show mr_wp _ _ (mr_ent _ (mr_mxl 2)) _ _ _ = _
  rw [show mr_mxl 2 = 2 from by decide +kernel]
  rfl
theorem r_ne_rankRest (a0 : Nat) (a1 : Int32) (h : mr_h) (Q : Option Value → mr_h → Prop) : mr_run 3 [.ref a0, .int a1] h Q = mr_wp 3 0 [.ref a0, .int a1, .null, .null] [] h Q := by
  show mr_wp _ _ (mr_ent _ (mr_mxl 3)) _ _ _ = _
  rw [show mr_mxl 3 = 4 from by decide +kernel]
  rfl
theorem r_ne_isRanked (a0 : Nat) (a1 : Int32) (h : mr_h) (Q : Option Value → mr_h → Prop) : mr_run 4 [.ref a0, .int a1] h Q = mr_wp 4 0 [.ref a0, .int a1] [] h Q := by
  show mr_wp _ _ (mr_ent _ (mr_mxl 4)) _ _ _ = _
  rw [show mr_mxl 4 = 2 from by decide +kernel]
  rfl
theorem r_sc_init (a0 : Nat) (h : mr_h) (Q : Option Value → mr_h → Prop) : mr_run 5 [.ref a0] h Q = mr_wp 5 0 [.ref a0] [] h Q := by
  show mr_wp _ _ (mr_ent _ (mr_mxl 5)) _ _ _ = _
  rw [show mr_mxl 5 = 1 from by decide +kernel]
  rfl
theorem r_re_init (a0 : Nat) (h : mr_h) (Q : Option Value → mr_h → Prop) : mr_run 6 [.ref a0] h Q = mr_wp 6 0 [.ref a0] [] h Q := by
  show mr_wp _ _ (mr_ent _ (mr_mxl 6)) _ _ _ = _
  rw [show mr_mxl 6 = 1 from by decide +kernel]
  rfl
theorem r_ra_init (a0 : Nat) (h : mr_h) (Q : Option Value → mr_h → Prop) : mr_run 7 [.ref a0] h Q = mr_wp 7 0 [.ref a0] [] h Q := by
  show mr_wp _ _ (mr_ent _ (mr_mxl 7)) _ _ _ = _
  rw [show mr_mxl 7 = 1 from by decide +kernel]
  rfl
theorem r_wa_init (a0 : Nat) (h : mr_h) (Q : Option Value → mr_h → Prop) : mr_run 8 [.ref a0] h Q = mr_wp 8 0 [.ref a0] [] h Q := by
  show mr_wp _ _ (mr_ent _ (mr_mxl 8)) _ _ _ = _
  rw [show mr_mxl 8 = 1 from by decide +kernel]
  rfl
theorem r_cg_init (a0 : Nat) (h : mr_h) (Q : Option Value → mr_h → Prop) : mr_run 9 [.ref a0] h Q = mr_wp 9 0 [.ref a0] [] h Q := by
  show mr_wp _ _ (mr_ent _ (mr_mxl 9)) _ _ _ = _
  rw [show mr_mxl 9 = 1 from by decide +kernel]
  rfl
theorem r_ch_init (a0 : Nat) (h : mr_h) (Q : Option Value → mr_h → Prop) : mr_run 10 [.ref a0] h Q = mr_wp 10 0 [.ref a0] [] h Q := by
  show mr_wp _ _ (mr_ent _ (mr_mxl 10)) _ _ _ = _
  rw [show mr_mxl 10 = 1 from by decide +kernel]
  rfl
theorem r_si_init (a0 : Nat) (h : mr_h) (Q : Option Value → mr_h → Prop) : mr_run 11 [.ref a0] h Q = mr_wp 11 0 [.ref a0] [] h Q := by
  show mr_wp _ _ (mr_ent _ (mr_mxl 11)) _ _ _ = _
  rw [show mr_mxl 11 = 1 from by decide +kernel]
  rfl
theorem r_pa_init (a0 : Nat) (h : mr_h) (Q : Option Value → mr_h → Prop) : mr_run 12 [.ref a0] h Q = mr_wp 12 0 [.ref a0, .null] [] h Q := by
  show mr_wp _ _ (mr_ent _ (mr_mxl 12)) _ _ _ = _
  rw [show mr_mxl 12 = 2 from by decide +kernel]
  rfl
theorem r_al_init (a0 : Nat) (h : mr_h) (Q : Option Value → mr_h → Prop) : mr_run 13 [.ref a0] h Q = mr_wp 13 0 [.ref a0, .null] [] h Q := by
  show mr_wp _ _ (mr_ent _ (mr_mxl 13)) _ _ _ = _
  rw [show mr_mxl 13 = 2 from by decide +kernel]
  rfl
theorem r_re_derive (a0 : Nat) (a1 : Nat) (h : mr_h) (Q : Option Value → mr_h → Prop) : mr_run 14 [.ref a0, .ref a1] h Q = mr_wp 14 0 [.ref a0, .ref a1] [] h Q := by
  show mr_wp _ _ (mr_ent _ (mr_mxl 14)) _ _ _ = _
  rw [show mr_mxl 14 = 2 from by decide +kernel]
  rfl
theorem r_rl_close (a0 : Nat) (a1 : Int32) (h : mr_h) (Q : Option Value → mr_h → Prop) : mr_run 15 [.ref a0, .int a1] h Q = mr_wp 15 0 [.ref a0, .int a1, .null, .null] [] h Q := by
  show mr_wp _ _ (mr_ent _ (mr_mxl 15)) _ _ _ = _
  rw [show mr_mxl 15 = 4 from by decide +kernel]
  rfl
theorem r_rl_bit (a0 : Int32) (h : mr_h) (Q : Option Value → mr_h → Prop) : mr_run 16 [.int a0] h Q = mr_wp 16 0 [.int a0] [] h Q := by
  show mr_wp _ _ (mr_ent _ (mr_mxl 16)) _ _ _ = _
  rw [show mr_mxl 16 = 1 from by decide +kernel]
  rfl
theorem r_rl_holds (a0 : Int32) (a1 : Int32) (h : mr_h) (Q : Option Value → mr_h → Prop) : mr_run 17 [.int a0, .int a1] h Q = mr_wp 17 0 [.int a0, .int a1] [] h Q := by
  show mr_wp _ _ (mr_ent _ (mr_mxl 17)) _ _ _ = _
  rw [show mr_mxl 17 = 2 from by decide +kernel]
  rfl
theorem r_re_turnAround (a0 : Nat) (h : mr_h) (Q : Option Value → mr_h → Prop) : mr_run 18 [.ref a0] h Q = mr_wp 18 0 [.ref a0, .null, .null] [] h Q := by
  show mr_wp _ _ (mr_ent _ (mr_mxl 18)) _ _ _ = _
  rw [show mr_mxl 18 = 3 from by decide +kernel]
  rfl
theorem r_re_nameRings (a0 : Nat) (h : mr_h) (Q : Option Value → mr_h → Prop) : mr_run 19 [.ref a0] h Q = mr_wp 19 0 [.ref a0, .null] [] h Q := by
  show mr_wp _ _ (mr_ent _ (mr_mxl 19)) _ _ _ = _
  rw [show mr_mxl 19 = 2 from by decide +kernel]
  rfl
theorem r_re_ringOf (a0 : Nat) (a1 : Int32) (h : mr_h) (Q : Option Value → mr_h → Prop) : mr_run 20 [.ref a0, .int a1] h Q = mr_wp 20 0 [.ref a0, .int a1] [] h Q := by
  show mr_wp _ _ (mr_ent _ (mr_mxl 20)) _ _ _ = _
  rw [show mr_mxl 20 = 2 from by decide +kernel]
  rfl
theorem r_rl_lowest (a0 : Int32) (h : mr_h) (Q : Option Value → mr_h → Prop) : mr_run 21 [.int a0] h Q = mr_wp 21 0 [.int a0, .null] [] h Q := by
  show mr_wp _ _ (mr_ent _ (mr_mxl 21)) _ _ _ = _
  rw [show mr_mxl 21 = 2 from by decide +kernel]
  rfl
theorem r_re_rankRings (a0 : Nat) (a1 : Nat) (h : mr_h) (Q : Option Value → mr_h → Prop) : mr_run 22 [.ref a0, .ref a1] h Q = mr_wp 22 0 [.ref a0, .ref a1, .null, .null] [] h Q := by
  show mr_wp _ _ (mr_ent _ (mr_mxl 22)) _ _ _ = _
  rw [show mr_mxl 22 = 4 from by decide +kernel]
  rfl
theorem r_re_label (a0 : Nat) (h : mr_h) (Q : Option Value → mr_h → Prop) : mr_run 24 [.ref a0] h Q = mr_wp 24 0 [.ref a0, .null, .null] [] h Q := by
  show mr_wp _ _ (mr_ent _ (mr_mxl 24)) _ _ _ = _
  rw [show mr_mxl 24 = 3 from by decide +kernel]
  rfl
theorem r_re_leads (a0 : Nat) (a1 : Int32) (a2 : Int32) (h : mr_h) (Q : Option Value → mr_h → Prop) : mr_run 25 [.ref a0, .int a1, .int a2] h Q = mr_wp 25 0 [.ref a0, .int a1, .int a2] [] h Q := by
  show mr_wp _ _ (mr_ent _ (mr_mxl 25)) _ _ _ = _
  rw [show mr_mxl 25 = 3 from by decide +kernel]
  rfl
theorem r_rl_type (a0 : Nat) (a1 : Int32) (h : mr_h) (Q : Option Value → mr_h → Prop) : mr_run 26 [.ref a0, .int a1] h Q = mr_wp 26 0 [.ref a0, .int a1] [] h Q := by
  show mr_wp _ _ (mr_ent _ (mr_mxl 26)) _ _ _ = _
  rw [show mr_mxl 26 = 2 from by decide +kernel]
  rfl
theorem r_sc_append (a0 : Nat) (a1 : Int32) (h : mr_h) (Q : Option Value → mr_h → Prop) : mr_run 27 [.ref a0, .int a1] h Q = mr_wp 27 0 [.ref a0, .int a1] [] h Q := by
  show mr_wp _ _ (mr_ent _ (mr_mxl 27)) _ _ _ = _
  rw [show mr_mxl 27 = 2 from by decide +kernel]
  rfl
theorem r_rl_clear (a0 : Nat) (h : mr_h) (Q : Option Value → mr_h → Prop) : mr_run 28 [.ref a0] h Q = mr_wp 28 0 [.ref a0, .null] [] h Q := by
  show mr_wp _ _ (mr_ent _ (mr_mxl 28)) _ _ _ = _
  rw [show mr_mxl 28 = 2 from by decide +kernel]
  rfl
theorem r_rl_graph (a0 : Nat) (h : mr_h) (Q : Option Value → mr_h → Prop) : mr_run 29 [.ref a0] h Q = mr_wp 29 0 [.ref a0, .null] [] h Q := by
  show mr_wp _ _ (mr_ent _ (mr_mxl 29)) _ _ _ = _
  rw [show mr_mxl 29 = 2 from by decide +kernel]
  rfl
theorem r_sc_readInto (a0 : Nat) (a1 : Nat) (h : mr_h) (Q : Option Value → mr_h → Prop) : mr_run 30 [.ref a0, .ref a1] h Q = mr_wp 30 0 [.ref a0, .ref a1, .null] [] h Q := by
  show mr_wp _ _ (mr_ent _ (mr_mxl 30)) _ _ _ = _
  rw [show mr_mxl 30 = 3 from by decide +kernel]
  rfl
theorem r_sc_readToken (a0 : Nat) (h : mr_h) (Q : Option Value → mr_h → Prop) : mr_run 31 [.ref a0] h Q = mr_wp 31 0 [.ref a0, .null, .null] [] h Q := by
  show mr_wp _ _ (mr_ent _ (mr_mxl 31)) _ _ _ = _
  rw [show mr_mxl 31 = 3 from by decide +kernel]
  rfl
theorem r_sc_isDigit (a0 : Int32) (h : mr_h) (Q : Option Value → mr_h → Prop) : mr_run 32 [.int a0] h Q = mr_wp 32 0 [.int a0] [] h Q := by
  show mr_wp _ _ (mr_ent _ (mr_mxl 32)) _ _ _ = _
  rw [show mr_mxl 32 = 1 from by decide +kernel]
  rfl
theorem r_sc_isSign (a0 : Int32) (h : mr_h) (Q : Option Value → mr_h → Prop) : mr_run 33 [.int a0] h Q = mr_wp 33 0 [.int a0] [] h Q := by
  show mr_wp _ _ (mr_ent _ (mr_mxl 33)) _ _ _ = _
  rw [show mr_mxl 33 = 1 from by decide +kernel]
  rfl
theorem r_sc_readItem (a0 : Nat) (a1 : Nat) (a2 : Int32) (h : mr_h) (Q : Option Value → mr_h → Prop) : mr_run 34 [.ref a0, .ref a1, .int a2] h Q = mr_wp 34 0 [.ref a0, .ref a1, .int a2, .null] [] h Q := by
  show mr_wp _ _ (mr_ent _ (mr_mxl 34)) _ _ _ = _
  rw [show mr_mxl 34 = 4 from by decide +kernel]
  rfl
theorem r_sc_readNodes (a0 : Nat) (a1 : Nat) (h : mr_h) (Q : Option Value → mr_h → Prop) : mr_run 35 [.ref a0, .ref a1] h Q = mr_wp 35 0 [.ref a0, .ref a1] [] h Q := by
  show mr_wp _ _ (mr_ent _ (mr_mxl 35)) _ _ _ = _
  rw [show mr_mxl 35 = 2 from by decide +kernel]
  rfl
theorem r_sc_readNumber (a0 : Nat) (a1 : Int32) (a2 : Int32) (h : mr_h) (Q : Option Value → mr_h → Prop) : mr_run 36 [.ref a0, .int a1, .int a2] h Q = mr_wp 36 0 [.ref a0, .int a1, .int a2] [] h Q := by
  show mr_wp _ _ (mr_ent _ (mr_mxl 36)) _ _ _ = _
  rw [show mr_mxl 36 = 3 from by decide +kernel]
  rfl
theorem r_sc_readEdge (a0 : Nat) (a1 : Nat) (h : mr_h) (Q : Option Value → mr_h → Prop) : mr_run 37 [.ref a0, .ref a1] h Q = mr_wp 37 0 [.ref a0, .ref a1, .null] [] h Q := by
  show mr_wp _ _ (mr_ent _ (mr_mxl 37)) _ _ _ = _
  rw [show mr_mxl 37 = 3 from by decide +kernel]
  rfl
theorem r_ne_has (a0 : Nat) (a1 : Int32) (a2 : Int32) (h : mr_h) (Q : Option Value → mr_h → Prop) : mr_run 38 [.ref a0, .int a1, .int a2] h Q = mr_wp 38 0 [.ref a0, .int a1, .int a2] [] h Q := by
  show mr_wp _ _ (mr_ent _ (mr_mxl 38)) _ _ _ = _
  rw [show mr_mxl 38 = 3 from by decide +kernel]
  rfl
theorem r_ne_link (a0 : Nat) (a1 : Int32) (a2 : Int32) (h : mr_h) (Q : Option Value → mr_h → Prop) : mr_run 39 [.ref a0, .int a1, .int a2] h Q = mr_wp 39 0 [.ref a0, .int a1, .int a2] [] h Q := by
  show mr_wp _ _ (mr_ent _ (mr_mxl 39)) _ _ _ = _
  rw [show mr_mxl 39 = 3 from by decide +kernel]
  rfl
theorem r_sc_readRanked (a0 : Nat) (a1 : Nat) (h : mr_h) (Q : Option Value → mr_h → Prop) : mr_run 40 [.ref a0, .ref a1] h Q = mr_wp 40 0 [.ref a0, .ref a1] [] h Q := by
  show mr_wp _ _ (mr_ent _ (mr_mxl 40)) _ _ _ = _
  rw [show mr_mxl 40 = 2 from by decide +kernel]
  rfl
theorem r_ne_become (a0 : Nat) (a1 : Nat) (h : mr_h) (Q : Option Value → mr_h → Prop) : mr_run 41 [.ref a0, .ref a1] h Q = mr_wp 41 0 [.ref a0, .ref a1] [] h Q := by
  show mr_wp _ _ (mr_ent _ (mr_mxl 41)) _ _ _ = _
  rw [show mr_mxl 41 = 2 from by decide +kernel]
  rfl
theorem r_al_empty (a0 : Nat) (h : mr_h) (Q : Option Value → mr_h → Prop) : mr_run 42 [.ref a0] h Q = mr_wp 42 0 [.ref a0, .null] [] h Q := by
  show mr_wp _ _ (mr_ent _ (mr_mxl 42)) _ _ _ = _
  rw [show mr_mxl 42 = 2 from by decide +kernel]
  rfl
theorem r_rl_node (a0 : Nat) (a1 : Int32) (a2 : Int32) (h : mr_h) (Q : Option Value → mr_h → Prop) : mr_run 43 [.ref a0, .int a1, .int a2] h Q = mr_wp 43 0 [.ref a0, .int a1, .int a2] [] h Q := by
  show mr_wp _ _ (mr_ent _ (mr_mxl 43)) _ _ _ = _
  rw [show mr_mxl 43 = 3 from by decide +kernel]
  rfl
theorem r_rl_isNode (a0 : Nat) (a1 : Int32) (h : mr_h) (Q : Option Value → mr_h → Prop) : mr_run 44 [.ref a0, .int a1] h Q = mr_wp 44 0 [.ref a0, .int a1] [] h Q := by
  show mr_wp _ _ (mr_ent _ (mr_mxl 44)) _ _ _ = _
  rw [show mr_mxl 44 = 2 from by decide +kernel]
  rfl
theorem r_rl_edge (a0 : Nat) (a1 : Int32) (a2 : Int32) (h : mr_h) (Q : Option Value → mr_h → Prop) : mr_run 45 [.ref a0, .int a1, .int a2] h Q = mr_wp 45 0 [.ref a0, .int a1, .int a2] [] h Q := by
  show mr_wp _ _ (mr_ent _ (mr_mxl 45)) _ _ _ = _
  rw [show mr_mxl 45 = 3 from by decide +kernel]
  rfl
theorem r_rl_areTwoNodes (a0 : Nat) (a1 : Int32) (a2 : Int32) (h : mr_h) (Q : Option Value → mr_h → Prop) : mr_run 46 [.ref a0, .int a1, .int a2] h Q = mr_wp 46 0 [.ref a0, .int a1, .int a2] [] h Q := by
  show mr_wp _ _ (mr_ent _ (mr_mxl 46)) _ _ _ = _
  rw [show mr_mxl 46 = 3 from by decide +kernel]
  rfl
theorem r_rl_areNodes (a0 : Nat) (a1 : Int32) (a2 : Int32) (h : mr_h) (Q : Option Value → mr_h → Prop) : mr_run 47 [.ref a0, .int a1, .int a2] h Q = mr_wp 47 0 [.ref a0, .int a1, .int a2] [] h Q := by
  show mr_wp _ _ (mr_ent _ (mr_mxl 47)) _ _ _ = _
  rw [show mr_mxl 47 = 3 from by decide +kernel]
  rfl
theorem r_rl_now (a0 : Nat) (a1 : Int32) (h : mr_h) (Q : Option Value → mr_h → Prop) : mr_run 48 [.ref a0, .int a1] h Q = mr_wp 48 0 [.ref a0, .int a1] [] h Q := by
  show mr_wp _ _ (mr_ent _ (mr_mxl 48)) _ _ _ = _
  rw [show mr_mxl 48 = 2 from by decide +kernel]
  rfl
theorem r_ne_edgeCount (a0 : Nat) (h : mr_h) (Q : Option Value → mr_h → Prop) : mr_run 49 [.ref a0] h Q = mr_wp 49 0 [.ref a0, .null, .null] [] h Q := by
  show mr_wp _ _ (mr_ent _ (mr_mxl 49)) _ _ _ = _
  rw [show mr_mxl 49 = 3 from by decide +kernel]
  rfl
theorem r_in_bitCount (a0 : Int32) (h : mr_h) (Q : Option Value → mr_h → Prop) : mr_run 50 [.int a0] h Q = mr_wp 50 0 [.int a0] [] h Q := by
  show mr_wp _ _ (mr_ent _ (mr_mxl 50)) _ _ _ = _
  rw [show mr_mxl 50 = 1 from by decide +kernel]
  rfl
theorem r_re_ringCount (a0 : Nat) (h : mr_h) (Q : Option Value → mr_h → Prop) : mr_run 51 [.ref a0] h Q = mr_wp 51 0 [.ref a0] [] h Q := by
  show mr_wp _ _ (mr_ent _ (mr_mxl 51)) _ _ _ = _
  rw [show mr_mxl 51 = 1 from by decide +kernel]
  rfl
theorem r_re_labelCount (a0 : Nat) (h : mr_h) (Q : Option Value → mr_h → Prop) : mr_run 52 [.ref a0] h Q = mr_wp 52 0 [.ref a0, .null, .null] [] h Q := by
  show mr_wp _ _ (mr_ent _ (mr_mxl 52)) _ _ _ = _
  rw [show mr_mxl 52 = 3 from by decide +kernel]
  rfl
theorem r_re_pairCount (a0 : Nat) (h : mr_h) (Q : Option Value → mr_h → Prop) : mr_run 53 [.ref a0] h Q = mr_wp 53 0 [.ref a0] [] h Q := by
  show mr_wp _ _ (mr_ent _ (mr_mxl 53)) _ _ _ = _
  rw [show mr_mxl 53 = 1 from by decide +kernel]
  rfl
theorem r_rl_pairsOf (a0 : Nat) (a1 : Int32) (h : mr_h) (Q : Option Value → mr_h → Prop) : mr_run 54 [.ref a0, .int a1] h Q = mr_wp 54 0 [.ref a0, .int a1, .null, .null] [] h Q := by
  show mr_wp _ _ (mr_ent _ (mr_mxl 54)) _ _ _ = _
  rw [show mr_mxl 54 = 4 from by decide +kernel]
  rfl
theorem r_cg_spareCount (a0 : Nat) (a1 : Nat) (h : mr_h) (Q : Option Value → mr_h → Prop) : mr_run 55 [.ref a0, .ref a1] h Q = mr_wp 55 0 [.ref a0, .ref a1, .null, .null, .null] [] h Q := by
  show mr_wp _ _ (mr_ent _ (mr_mxl 55)) _ _ _ = _
  rw [show mr_mxl 55 = 5 from by decide +kernel]
  rfl
theorem r_cg_isSpare (a0 : Nat) (a1 : Nat) (a2 : Int32) (a3 : Int32) (h : mr_h) (Q : Option Value → mr_h → Prop) : mr_run 56 [.ref a0, .ref a1, .int a2, .int a3] h Q = mr_wp 56 0 [.ref a0, .ref a1, .int a2, .int a3] [] h Q := by
  show mr_wp _ _ (mr_ent _ (mr_mxl 56)) _ _ _ = _
  rw [show mr_mxl 56 = 4 from by decide +kernel]
  rfl
theorem r_ne_spread (a0 : Nat) (a1 : Int32) (a2 : Int32) (h : mr_h) (Q : Option Value → mr_h → Prop) : mr_run 57 [.ref a0, .int a1, .int a2] h Q = mr_wp 57 0 [.ref a0, .int a1, .int a2, .null, .null, .null, .null] [] h Q := by
  show mr_wp _ _ (mr_ent _ (mr_mxl 57)) _ _ _ = _
  rw [show mr_mxl 57 = 7 from by decide +kernel]
  rfl
theorem r_re_lone (a0 : Nat) (h : mr_h) (Q : Option Value → mr_h → Prop) : mr_run 58 [.ref a0] h Q = mr_wp 58 0 [.ref a0, .null, .null, .null] [] h Q := by
  show mr_wp _ _ (mr_ent _ (mr_mxl 58)) _ _ _ = _
  rw [show mr_mxl 58 = 4 from by decide +kernel]
  rfl
theorem r_re_chain (a0 : Nat) (h : mr_h) (Q : Option Value → mr_h → Prop) : mr_run 60 [.ref a0] h Q = mr_wp 60 0 [.ref a0, .null, .null, .null] [] h Q := by
  show mr_wp _ _ (mr_ent _ (mr_mxl 60)) _ _ _ = _
  rw [show mr_mxl 60 = 4 from by decide +kernel]
  rfl
theorem r_re_longestFrom (a0 : Nat) (a1 : Int32) (h : mr_h) (Q : Option Value → mr_h → Prop) : mr_run 61 [.ref a0, .int a1] h Q = mr_wp 61 0 [.ref a0, .int a1, .null, .null] [] h Q := by
  show mr_wp _ _ (mr_ent _ (mr_mxl 61)) _ _ _ = _
  rw [show mr_mxl 61 = 4 from by decide +kernel]
  rfl
theorem r_rl_adds (a0 : Nat) (a1 : Int32) (a2 : Int32) (h : mr_h) (Q : Option Value → mr_h → Prop) : mr_run 62 [.ref a0, .int a1, .int a2] h Q = mr_wp 62 0 [.ref a0, .int a1, .int a2] [] h Q := by
  show mr_wp _ _ (mr_ent _ (mr_mxl 62)) _ _ _ = _
  rw [show mr_mxl 62 = 3 from by decide +kernel]
  rfl
theorem r_pa_remember (a0 : Nat) (a1 : Nat) (h : mr_h) (Q : Option Value → mr_h → Prop) : mr_run 63 [.ref a0, .ref a1] h Q = mr_wp 63 0 [.ref a0, .ref a1] [] h Q := by
  show mr_wp _ _ (mr_ent _ (mr_mxl 63)) _ _ _ = _
  rw [show mr_mxl 63 = 2 from by decide +kernel]
  rfl
theorem r_pa_dropOldest (a0 : Nat) (h : mr_h) (Q : Option Value → mr_h → Prop) : mr_run 64 [.ref a0] h Q = mr_wp 64 0 [.ref a0, .null, .null] [] h Q := by
  show mr_wp _ _ (mr_ent _ (mr_mxl 64)) _ _ _ = _
  rw [show mr_mxl 64 = 3 from by decide +kernel]
  rfl
theorem r_rl_labelsThen (a0 : Nat) (h : mr_h) (Q : Option Value → mr_h → Prop) : mr_run 65 [.ref a0] h Q = mr_wp 65 0 [.ref a0] [] h Q := by
  show mr_wp _ _ (mr_ent _ (mr_mxl 65)) _ _ _ = _
  rw [show mr_mxl 65 = 1 from by decide +kernel]
  rfl
theorem r_rl_cuts (a0 : Nat) (a1 : Int32) (a2 : Int32) (h : mr_h) (Q : Option Value → mr_h → Prop) : mr_run 66 [.ref a0, .int a1, .int a2] h Q = mr_wp 66 0 [.ref a0, .int a1, .int a2] [] h Q := by
  show mr_wp _ _ (mr_ent _ (mr_mxl 66)) _ _ _ = _
  rw [show mr_mxl 66 = 3 from by decide +kernel]
  rfl
theorem r_ne_unlink (a0 : Nat) (a1 : Int32) (a2 : Int32) (h : mr_h) (Q : Option Value → mr_h → Prop) : mr_run 67 [.ref a0, .int a1, .int a2] h Q = mr_wp 67 0 [.ref a0, .int a1, .int a2] [] h Q := by
  show mr_wp _ _ (mr_ent _ (mr_mxl 67)) _ _ _ = _
  rw [show mr_mxl 67 = 3 from by decide +kernel]
  rfl
theorem r_rl_ranks (a0 : Nat) (h : mr_h) (Q : Option Value → mr_h → Prop) : mr_run 68 [.ref a0] h Q = mr_wp 68 0 [.ref a0] [] h Q := by
  show mr_wp _ _ (mr_ent _ (mr_mxl 68)) _ _ _ = _
  rw [show mr_mxl 68 = 1 from by decide +kernel]
  rfl
theorem r_ra_rank (a0 : Nat) (a1 : Nat) (h : mr_h) (Q : Option Value → mr_h → Prop) : mr_run 69 [.ref a0, .ref a1] h Q = mr_wp 69 0 [.ref a0, .ref a1, .null] [] h Q := by
  show mr_wp _ _ (mr_ent _ (mr_mxl 69)) _ _ _ = _
  rw [show mr_mxl 69 = 3 from by decide +kernel]
  rfl
theorem r_ne_edgesInto (a0 : Nat) (a1 : Int32) (h : mr_h) (Q : Option Value → mr_h → Prop) : mr_run 70 [.ref a0, .int a1] h Q = mr_wp 70 0 [.ref a0, .int a1, .null, .null] [] h Q := by
  show mr_wp _ _ (mr_ent _ (mr_mxl 70)) _ _ _ = _
  rw [show mr_mxl 70 = 4 from by decide +kernel]
  rfl
theorem r_ra_howManyAheadOf (a0 : Nat) (a1 : Int32) (a2 : Int32) (h : mr_h) (Q : Option Value → mr_h → Prop) : mr_run 71 [.ref a0, .int a1, .int a2] h Q = mr_wp 71 0 [.ref a0, .int a1, .int a2, .null, .null] [] h Q := by
  show mr_wp _ _ (mr_ent _ (mr_mxl 71)) _ _ _ = _
  rw [show mr_mxl 71 = 5 from by decide +kernel]
  rfl
theorem r_rl_undo (a0 : Nat) (h : mr_h) (Q : Option Value → mr_h → Prop) : mr_run 72 [.ref a0] h Q = mr_wp 72 0 [.ref a0] [] h Q := by
  show mr_wp _ _ (mr_ent _ (mr_mxl 72)) _ _ _ = _
  rw [show mr_mxl 72 = 1 from by decide +kernel]
  rfl
theorem r_pa_restore (a0 : Nat) (a1 : Nat) (h : mr_h) (Q : Option Value → mr_h → Prop) : mr_run 73 [.ref a0, .ref a1] h Q = mr_wp 73 0 [.ref a0, .ref a1] [] h Q := by
  show mr_wp _ _ (mr_ent _ (mr_mxl 73)) _ _ _ = _
  rw [show mr_mxl 73 = 2 from by decide +kernel]
  rfl
theorem r_rl_comes (a0 : Nat) (a1 : Int32) (a2 : Int32) (h : mr_h) (Q : Option Value → mr_h → Prop) : mr_run 74 [.ref a0, .int a1, .int a2] h Q = mr_wp 74 0 [.ref a0, .int a1, .int a2] [] h Q := by
  show mr_wp _ _ (mr_ent _ (mr_mxl 74)) _ _ _ = _
  rw [show mr_mxl 74 = 3 from by decide +kernel]
  rfl
theorem r_rl_hub (a0 : Nat) (a1 : Int32) (a2 : Int32) (h : mr_h) (Q : Option Value → mr_h → Prop) : mr_run 75 [.ref a0, .int a1, .int a2] h Q = mr_wp 75 0 [.ref a0, .int a1, .int a2] [] h Q := by
  show mr_wp _ _ (mr_ent _ (mr_mxl 75)) _ _ _ = _
  rw [show mr_mxl 75 = 3 from by decide +kernel]
  rfl
theorem r_re_lowestRanked (a0 : Nat) (a1 : Int32) (h : mr_h) (Q : Option Value → mr_h → Prop) : mr_run 76 [.ref a0, .int a1] h Q = mr_wp 76 0 [.ref a0, .int a1, .null, .null] [] h Q := by
  show mr_wp _ _ (mr_ent _ (mr_mxl 76)) _ _ _ = _
  rw [show mr_mxl 76 = 4 from by decide +kernel]
  rfl
theorem r_rl_way (a0 : Nat) (a1 : Int32) (a2 : Int32) (a3 : Int32) (h : mr_h) (Q : Option Value → mr_h → Prop) : mr_run 77 [.ref a0, .int a1, .int a2, .int a3] h Q = mr_wp 77 0 [.ref a0, .int a1, .int a2, .int a3, .null] [] h Q := by
  show mr_wp _ _ (mr_ent _ (mr_mxl 77)) _ _ _ = _
  rw [show mr_mxl 77 = 5 from by decide +kernel]
  rfl
theorem r_wa_shortest (a0 : Nat) (a1 : Nat) (a2 : Int32) (a3 : Int32) (h : mr_h) (Q : Option Value → mr_h → Prop) : mr_run 78 [.ref a0, .ref a1, .int a2, .int a3] h Q = mr_wp 78 0 [.ref a0, .ref a1, .int a2, .int a3, .null, .null] [] h Q := by
  show mr_wp _ _ (mr_ent _ (mr_mxl 78)) _ _ _ = _
  rw [show mr_mxl 78 = 6 from by decide +kernel]
  rfl
theorem r_wa_leadingTo (a0 : Nat) (a1 : Int32) (h : mr_h) (Q : Option Value → mr_h → Prop) : mr_run 79 [.ref a0, .int a1] h Q = mr_wp 79 0 [.ref a0, .int a1, .null, .null] [] h Q := by
  show mr_wp _ _ (mr_ent _ (mr_mxl 79)) _ _ _ = _
  rw [show mr_mxl 79 = 4 from by decide +kernel]
  rfl
theorem r_wa_nodeOfShortest (a0 : Nat) (a1 : Nat) (a2 : Int32) (a3 : Int32) (a4 : Int32) (h : mr_h) (Q : Option Value → mr_h → Prop) : mr_run 80 [.ref a0, .ref a1, .int a2, .int a3, .int a4] h Q = mr_wp 80 0 [.ref a0, .ref a1, .int a2, .int a3, .int a4, .null, .null] [] h Q := by
  show mr_wp _ _ (mr_ent _ (mr_mxl 80)) _ _ _ = _
  rw [show mr_mxl 80 = 7 from by decide +kernel]
  rfl
theorem r_rl_on (a0 : Nat) (a1 : Int32) (a2 : Int32) (a3 : Int32) (h : mr_h) (Q : Option Value → mr_h → Prop) : mr_run 81 [.ref a0, .int a1, .int a2, .int a3] h Q = mr_wp 81 0 [.ref a0, .int a1, .int a2, .int a3, .null] [] h Q := by
  show mr_wp _ _ (mr_ent _ (mr_mxl 81)) _ _ _ = _
  rw [show mr_mxl 81 = 5 from by decide +kernel]
  rfl
theorem r_rl_isChoice (a0 : Int32) (h : mr_h) (Q : Option Value → mr_h → Prop) : mr_run 82 [.int a0] h Q = mr_wp 82 0 [.int a0] [] h Q := by
  show mr_wp _ _ (mr_ent _ (mr_mxl 82)) _ _ _ = _
  rw [show mr_mxl 82 = 1 from by decide +kernel]
  rfl
theorem r_wa_onEvery (a0 : Nat) (a1 : Nat) (a2 : Int32) (a3 : Int32) (a4 : Int32) (h : mr_h) (Q : Option Value → mr_h → Prop) : mr_run 83 [.ref a0, .ref a1, .int a2, .int a3, .int a4] h Q = mr_wp 83 0 [.ref a0, .ref a1, .int a2, .int a3, .int a4, .null, .null] [] h Q := by
  show mr_wp _ _ (mr_ent _ (mr_mxl 83)) _ _ _ = _
  rw [show mr_mxl 83 = 7 from by decide +kernel]
  rfl
theorem r_rl_loss (a0 : Nat) (a1 : Int32) (a2 : Int32) (a3 : Int32) (h : mr_h) (Q : Option Value → mr_h → Prop) : mr_run 84 [.ref a0, .int a1, .int a2, .int a3] h Q = mr_wp 84 0 [.ref a0, .int a1, .int a2, .int a3] [] h Q := by
  show mr_wp _ _ (mr_ent _ (mr_mxl 84)) _ _ _ = _
  rw [show mr_mxl 84 = 4 from by decide +kernel]
  rfl
theorem r_cg_pairsWithout (a0 : Nat) (a1 : Nat) (a2 : Int32) (a3 : Int32) (h : mr_h) (Q : Option Value → mr_h → Prop) : mr_run 85 [.ref a0, .ref a1, .int a2, .int a3] h Q = mr_wp 85 0 [.ref a0, .ref a1, .int a2, .int a3] [] h Q := by
  show mr_wp _ _ (mr_ent _ (mr_mxl 85)) _ _ _ = _
  rw [show mr_mxl 85 = 4 from by decide +kernel]
  rfl
theorem r_rl_gain (a0 : Nat) (a1 : Int32) (a2 : Int32) (h : mr_h) (Q : Option Value → mr_h → Prop) : mr_run 86 [.ref a0, .int a1, .int a2] h Q = mr_wp 86 0 [.ref a0, .int a1, .int a2] [] h Q := by
  show mr_wp _ _ (mr_ent _ (mr_mxl 86)) _ _ _ = _
  rw [show mr_mxl 86 = 3 from by decide +kernel]
  rfl
theorem r_cg_gainOf (a0 : Nat) (a1 : Nat) (a2 : Int32) (a3 : Int32) (h : mr_h) (Q : Option Value → mr_h → Prop) : mr_run 87 [.ref a0, .ref a1, .int a2, .int a3] h Q = mr_wp 87 0 [.ref a0, .ref a1, .int a2, .int a3, .null, .null] [] h Q := by
  show mr_wp _ _ (mr_ent _ (mr_mxl 87)) _ _ _ = _
  rw [show mr_mxl 87 = 6 from by decide +kernel]
  rfl
theorem r_rl_best (a0 : Nat) (a1 : Int32) (h : mr_h) (Q : Option Value → mr_h → Prop) : mr_run 88 [.ref a0, .int a1] h Q = mr_wp 88 0 [.ref a0, .int a1, .null] [] h Q := by
  show mr_wp _ _ (mr_ent _ (mr_mxl 88)) _ _ _ = _
  rw [show mr_mxl 88 = 3 from by decide +kernel]
  rfl
theorem r_cg_bestToAdd (a0 : Nat) (a1 : Nat) (a2 : Nat) (h : mr_h) (Q : Option Value → mr_h → Prop) : mr_run 89 [.ref a0, .ref a1, .ref a2] h Q = mr_wp 89 0 [.ref a0, .ref a1, .ref a2, .null, .null, .null, .null, .null] [] h Q := by
  show mr_wp _ _ (mr_ent _ (mr_mxl 89)) _ _ _ = _
  rw [show mr_mxl 89 = 8 from by decide +kernel]
  rfl
theorem r_ne_missingFrom (a0 : Nat) (a1 : Int32) (h : mr_h) (Q : Option Value → mr_h → Prop) : mr_run 90 [.ref a0, .int a1] h Q = mr_wp 90 0 [.ref a0, .int a1] [] h Q := by
  show mr_wp _ _ (mr_ent _ (mr_mxl 90)) _ _ _ = _
  rw [show mr_mxl 90 = 2 from by decide +kernel]
  rfl
theorem r_ne_everyNode (a0 : Nat) (h : mr_h) (Q : Option Value → mr_h → Prop) : mr_run 91 [.ref a0] h Q = mr_wp 91 0 [.ref a0] [] h Q := by
  show mr_wp _ _ (mr_ent _ (mr_mxl 91)) _ _ _ = _
  rw [show mr_mxl 91 = 1 from by decide +kernel]
  rfl
theorem r_rl_edgeNumber (a0 : Int32) (a1 : Int32) (h : mr_h) (Q : Option Value → mr_h → Prop) : mr_run 92 [.int a0, .int a1] h Q = mr_wp 92 0 [.int a0, .int a1] [] h Q := by
  show mr_wp _ _ (mr_ent _ (mr_mxl 92)) _ _ _ = _
  rw [show mr_mxl 92 = 2 from by decide +kernel]
  rfl
theorem r_rl_odds (a0 : Nat) (a1 : Int32) (a2 : Int32) (a3 : Int32) (a4 : Int32) (h : mr_h) (Q : Option Value → mr_h → Prop) : mr_run 93 [.ref a0, .int a1, .int a2, .int a3, .int a4] h Q = mr_wp 93 0 [.ref a0, .int a1, .int a2, .int a3, .int a4] [] h Q := by
  show mr_wp _ _ (mr_ent _ (mr_mxl 93)) _ _ _ = _
  rw [show mr_mxl 93 = 5 from by decide +kernel]
  rfl
theorem r_ch_weigh (a0 : Nat) (a1 : Nat) (a2 : Nat) (a3 : Int32) (a4 : Int32) (a5 : Int32) (h : mr_h) (Q : Option Value → mr_h → Prop) : mr_run 94 [.ref a0, .ref a1, .ref a2, .int a3, .int a4, .int a5] h Q = mr_wp 94 0 [.ref a0, .ref a1, .ref a2, .int a3, .int a4, .int a5, .null] [] h Q := by
  show mr_wp _ _ (mr_ent _ (mr_mxl 94)) _ _ _ = _
  rw [show mr_mxl 94 = 7 from by decide +kernel]
  rfl
theorem r_ch_takeEdges (a0 : Nat) (a1 : Nat) (a2 : Int32) (h : mr_h) (Q : Option Value → mr_h → Prop) : mr_run 95 [.ref a0, .ref a1, .int a2] h Q = mr_wp 95 0 [.ref a0, .ref a1, .int a2, .null, .null, .null] [] h Q := by
  show mr_wp _ _ (mr_ent _ (mr_mxl 95)) _ _ _ = _
  rw [show mr_mxl 95 = 6 from by decide +kernel]
  rfl
theorem r_ch_weighCounts (a0 : Nat) (a1 : Int32) (h : mr_h) (Q : Option Value → mr_h → Prop) : mr_run 96 [.ref a0, .int a1] h Q = mr_wp 96 0 [.ref a0, .int a1, .null] [] h Q := by
  show mr_wp _ _ (mr_ent _ (mr_mxl 96)) _ _ _ = _
  rw [show mr_mxl 96 = 3 from by decide +kernel]
  rfl
theorem r_ch_power (a0 : Int64) (a1 : Int32) (h : mr_h) (Q : Option Value → mr_h → Prop) : mr_run 97 [.long a0, .int a1] h Q = mr_wp 97 0 [.long a0, .null, .int a1, .null, .null, .null] [] h Q := by
  show mr_wp _ _ (mr_ent _ (mr_mxl 97)) _ _ _ = _
  rw [show mr_mxl 97 = 6 from by decide +kernel]
  rfl
theorem r_ch_arrives (a0 : Nat) (a1 : Int32) (a2 : Int32) (a3 : Int32) (h : mr_h) (Q : Option Value → mr_h → Prop) : mr_run 98 [.ref a0, .int a1, .int a2, .int a3] h Q = mr_wp 98 0 [.ref a0, .int a1, .int a2, .int a3, .null, .null, .null, .null] [] h Q := by
  show mr_wp _ _ (mr_ent _ (mr_mxl 98)) _ _ _ = _
  rw [show mr_mxl 98 = 8 from by decide +kernel]
  rfl
theorem r_ch_reduce (a0 : Nat) (h : mr_h) (Q : Option Value → mr_h → Prop) : mr_run 99 [.ref a0] h Q = mr_wp 99 0 [.ref a0, .null, .null, .null, .null, .null, .null, .null] [] h Q := by
  show mr_wp _ _ (mr_ent _ (mr_mxl 99)) _ _ _ = _
  rw [show mr_mxl 99 = 8 from by decide +kernel]
  rfl
theorem r_rl_sees (a0 : Nat) (a1 : Int32) (a2 : Int32) (a3 : Int32) (h : mr_h) (Q : Option Value → mr_h → Prop) : mr_run 100 [.ref a0, .int a1, .int a2, .int a3] h Q = mr_wp 100 0 [.ref a0, .int a1, .int a2, .int a3] [] h Q := by
  show mr_wp _ _ (mr_ent _ (mr_mxl 100)) _ _ _ = _
  rw [show mr_mxl 100 = 4 from by decide +kernel]
  rfl
theorem r_si_append (a0 : Nat) (a1 : Int32) (a2 : Int32) (a3 : Int32) (h : mr_h) (Q : Option Value → mr_h → Prop) : mr_run 101 [.ref a0, .int a1, .int a2, .int a3] h Q = mr_wp 101 0 [.ref a0, .int a1, .int a2, .int a3] [] h Q := by
  show mr_wp _ _ (mr_ent _ (mr_mxl 101)) _ _ _ = _
  rw [show mr_mxl 101 = 4 from by decide +kernel]
  rfl
theorem r_rl_forget (a0 : Nat) (h : mr_h) (Q : Option Value → mr_h → Prop) : mr_run 102 [.ref a0] h Q = mr_wp 102 0 [.ref a0, .null] [] h Q := by
  show mr_wp _ _ (mr_ent _ (mr_mxl 102)) _ _ _ = _
  rw [show mr_mxl 102 = 2 from by decide +kernel]
  rfl
theorem r_rl_unseen (a0 : Nat) (a1 : Int32) (h : mr_h) (Q : Option Value → mr_h → Prop) : mr_run 103 [.ref a0, .int a1] h Q = mr_wp 103 0 [.ref a0, .int a1] [] h Q := by
  show mr_wp _ _ (mr_ent _ (mr_mxl 103)) _ _ _ = _
  rw [show mr_mxl 103 = 2 from by decide +kernel]
  rfl
theorem r_si_sift (a0 : Nat) (a1 : Nat) (a2 : Nat) (h : mr_h) (Q : Option Value → mr_h → Prop) : mr_run 104 [.ref a0, .ref a1, .ref a2] h Q = mr_wp 104 0 [.ref a0, .ref a1, .ref a2, .null, .null, .null] [] h Q := by
  show mr_wp _ _ (mr_ent _ (mr_mxl 104)) _ _ _ = _
  rw [show mr_mxl 104 = 6 from by decide +kernel]
  rfl
theorem r_si_making (a0 : Nat) (a1 : Int32) (a2 : Int32) (a3 : Int32) (h : mr_h) (Q : Option Value → mr_h → Prop) : mr_run 105 [.ref a0, .int a1, .int a2, .int a3] h Q = mr_wp 105 0 [.ref a0, .int a1, .int a2, .int a3] [] h Q := by
  show mr_wp _ _ (mr_ent _ (mr_mxl 105)) _ _ _ = _
  rw [show mr_mxl 105 = 4 from by decide +kernel]
  rfl
theorem r_si_fitting (a0 : Nat) (h : mr_h) (Q : Option Value → mr_h → Prop) : mr_run 106 [.ref a0] h Q = mr_wp 106 0 [.ref a0, .null, .null] [] h Q := by
  show mr_wp _ _ (mr_ent _ (mr_mxl 106)) _ _ _ = _
  rw [show mr_mxl 106 = 3 from by decide +kernel]
  rfl
theorem r_si_firstFitting (a0 : Nat) (h : mr_h) (Q : Option Value → mr_h → Prop) : mr_run 107 [.ref a0] h Q = mr_wp 107 0 [.ref a0, .null] [] h Q := by
  show mr_wp _ _ (mr_ent _ (mr_mxl 107)) _ _ _ = _
  rw [show mr_mxl 107 = 2 from by decide +kernel]
  rfl
theorem r_rl_next (a0 : Nat) (h : mr_h) (Q : Option Value → mr_h → Prop) : mr_run 108 [.ref a0] h Q = mr_wp 108 0 [.ref a0] [] h Q := by
  show mr_wp _ _ (mr_ent _ (mr_mxl 108)) _ _ _ = _
  rw [show mr_mxl 108 = 1 from by decide +kernel]
  rfl
theorem r_si_bestQuestion (a0 : Nat) (a1 : Nat) (h : mr_h) (Q : Option Value → mr_h → Prop) : mr_run 109 [.ref a0, .ref a1] h Q = mr_wp 109 0 [.ref a0, .ref a1, .null, .null, .null, .null, .null, .null, .null] [] h Q := by
  show mr_wp _ _ (mr_ent _ (mr_mxl 109)) _ _ _ = _
  rw [show mr_mxl 109 = 9 from by decide +kernel]
  rfl
theorem r_si_fittingSo (a0 : Nat) (a1 : Nat) (a2 : Int32) (a3 : Int32) (h : mr_h) (Q : Option Value → mr_h → Prop) : mr_run 110 [.ref a0, .ref a1, .int a2, .int a3] h Q = mr_wp 110 0 [.ref a0, .ref a1, .int a2, .int a3, .null, .null] [] h Q := by
  show mr_wp _ _ (mr_ent _ (mr_mxl 110)) _ _ _ = _
  rw [show mr_mxl 110 = 6 from by decide +kernel]
  rfl
theorem r_rl_keep (a0 : Nat) (a1 : Int32) (h : mr_h) (Q : Option Value → mr_h → Prop) : mr_run 111 [.ref a0, .int a1] h Q = mr_wp 111 0 [.ref a0, .int a1] [] h Q := by
  show mr_wp _ _ (mr_ent _ (mr_mxl 111)) _ _ _ = _
  rw [show mr_mxl 111 = 2 from by decide +kernel]
  rfl
theorem r_al_take (a0 : Nat) (a1 : Int32) (a2 : Nat) (h : mr_h) (Q : Option Value → mr_h → Prop) : mr_run 112 [.ref a0, .int a1, .ref a2] h Q = mr_wp 112 0 [.ref a0, .int a1, .ref a2] [] h Q := by
  show mr_wp _ _ (mr_ent _ (mr_mxl 112)) _ _ _ = _
  rw [show mr_mxl 112 = 3 from by decide +kernel]
  rfl
theorem r_rl_back (a0 : Nat) (a1 : Int32) (h : mr_h) (Q : Option Value → mr_h → Prop) : mr_run 113 [.ref a0, .int a1] h Q = mr_wp 113 0 [.ref a0, .int a1] [] h Q := by
  show mr_wp _ _ (mr_ent _ (mr_mxl 113)) _ _ _ = _
  rw [show mr_mxl 113 = 2 from by decide +kernel]
  rfl
theorem r_al_show (a0 : Nat) (a1 : Int32) (a2 : Nat) (h : mr_h) (Q : Option Value → mr_h → Prop) : mr_run 114 [.ref a0, .int a1, .ref a2] h Q = mr_wp 114 0 [.ref a0, .int a1, .ref a2] [] h Q := by
  show mr_wp _ _ (mr_ent _ (mr_mxl 114)) _ _ _ = _
  rw [show mr_mxl 114 = 3 from by decide +kernel]
  rfl
theorem r_rl_count (a0 : Nat) (a1 : Int32) (h : mr_h) (Q : Option Value → mr_h → Prop) : mr_run 115 [.ref a0, .int a1] h Q = mr_wp 115 0 [.ref a0, .int a1] [] h Q := by
  show mr_wp _ _ (mr_ent _ (mr_mxl 115)) _ _ _ = _
  rw [show mr_mxl 115 = 2 from by decide +kernel]
  rfl
theorem r_mo_init (a0 : Nat) (h : mr_h) (Q : Option Value → mr_h → Prop) : mr_run 116 [.ref a0] h Q = mr_wp 116 0 [.ref a0] [] h Q := by
  show mr_wp _ _ (mr_ent _ (mr_mxl 116)) _ _ _ = _
  rw [show mr_mxl 116 = 1 from by decide +kernel]
  rfl
theorem r_mo_begins (a0 : Nat) (h : mr_h) (Q : Option Value → mr_h → Prop) : mr_run 117 [.ref a0] h Q = mr_wp 117 0 [.ref a0, .null] [] h Q := by
  show mr_wp _ _ (mr_ent _ (mr_mxl 117)) _ _ _ = _
  rw [show mr_mxl 117 = 2 from by decide +kernel]
  rfl
theorem r_mo_ranksRest (a0 : Nat) (h : mr_h) (Q : Option Value → mr_h → Prop) : mr_run 118 [.ref a0] h Q = mr_wp 118 0 [.ref a0, .null] [] h Q := by
  show mr_wp _ _ (mr_ent _ (mr_mxl 118)) _ _ _ = _
  rw [show mr_mxl 118 = 2 from by decide +kernel]
  rfl
theorem r_mo_settles (a0 : Nat) (h : mr_h) (Q : Option Value → mr_h → Prop) : mr_run 119 [.ref a0] h Q = mr_wp 119 0 [.ref a0, .null] [] h Q := by
  show mr_wp _ _ (mr_ent _ (mr_mxl 119)) _ _ _ = _
  rw [show mr_mxl 119 = 2 from by decide +kernel]
  rfl
theorem r_mo_type (a0 : Nat) (a1 : Int32) (h : mr_h) (Q : Option Value → mr_h → Prop) : mr_run 120 [.ref a0, .int a1] h Q = mr_wp 120 0 [.ref a0, .int a1] [] h Q := by
  show mr_wp _ _ (mr_ent _ (mr_mxl 120)) _ _ _ = _
  rw [show mr_mxl 120 = 2 from by decide +kernel]
  rfl
theorem r_mo_in (a0 : Int32) (a1 : Int32) (a2 : Int32) (h : mr_h) (Q : Option Value → mr_h → Prop) : mr_run 121 [.int a0, .int a1, .int a2] h Q = mr_wp 121 0 [.int a0, .int a1, .int a2] [] h Q := by
  show mr_wp _ _ (mr_ent _ (mr_mxl 121)) _ _ _ = _
  rw [show mr_mxl 121 = 3 from by decide +kernel]
  rfl
theorem r_mo_clear (a0 : Nat) (h : mr_h) (Q : Option Value → mr_h → Prop) : mr_run 122 [.ref a0] h Q = mr_wp 122 0 [.ref a0, .null] [] h Q := by
  show mr_wp _ _ (mr_ent _ (mr_mxl 122)) _ _ _ = _
  rw [show mr_mxl 122 = 2 from by decide +kernel]
  rfl
theorem r_mo_graph (a0 : Nat) (h : mr_h) (Q : Option Value → mr_h → Prop) : mr_run 123 [.ref a0] h Q = mr_wp 123 0 [.ref a0, .null, .null] [] h Q := by
  show mr_wp _ _ (mr_ent _ (mr_mxl 123)) _ _ _ = _
  rw [show mr_mxl 123 = 3 from by decide +kernel]
  rfl
theorem r_mo_advances (a0 : Nat) (h : mr_h) (Q : Option Value → mr_h → Prop) : mr_run 124 [.ref a0] h Q = mr_wp 124 0 [.ref a0, .null] [] h Q := by
  show mr_wp _ _ (mr_ent _ (mr_mxl 124)) _ _ _ = _
  rw [show mr_mxl 124 = 2 from by decide +kernel]
  rfl
theorem r_mo_letterAt (a0 : Nat) (a1 : Int32) (h : mr_h) (Q : Option Value → mr_h → Prop) : mr_run 125 [.ref a0, .int a1] h Q = mr_wp 125 0 [.ref a0, .int a1] [] h Q := by
  show mr_wp _ _ (mr_ent _ (mr_mxl 125)) _ _ _ = _
  rw [show mr_mxl 125 = 2 from by decide +kernel]
  rfl
theorem r_mo_isWell (a0 : Nat) (h : mr_h) (Q : Option Value → mr_h → Prop) : mr_run 126 [.ref a0] h Q = mr_wp 126 0 [.ref a0] [] h Q := by
  show mr_wp _ _ (mr_ent _ (mr_mxl 126)) _ _ _ = _
  rw [show mr_mxl 126 = 1 from by decide +kernel]
  rfl
theorem r_mo_takes (a0 : Nat) (a1 : Int32) (h : mr_h) (Q : Option Value → mr_h → Prop) : mr_run 127 [.ref a0, .int a1] h Q = mr_wp 127 0 [.ref a0, .int a1, .null] [] h Q := by
  show mr_wp _ _ (mr_ent _ (mr_mxl 127)) _ _ _ = _
  rw [show mr_mxl 127 = 3 from by decide +kernel]
  rfl
theorem r_mo_readsItem (a0 : Nat) (a1 : Int32) (h : mr_h) (Q : Option Value → mr_h → Prop) : mr_run 128 [.ref a0, .int a1] h Q = mr_wp 128 0 [.ref a0, .int a1, .null, .null] [] h Q := by
  show mr_wp _ _ (mr_ent _ (mr_mxl 128)) _ _ _ = _
  rw [show mr_mxl 128 = 4 from by decide +kernel]
  rfl
theorem r_mo_isNumber (a0 : Nat) (a1 : Int32) (a2 : Int32) (h : mr_h) (Q : Option Value → mr_h → Prop) : mr_run 129 [.ref a0, .int a1, .int a2] h Q = mr_wp 129 0 [.ref a0, .int a1, .int a2] [] h Q := by
  show mr_wp _ _ (mr_ent _ (mr_mxl 129)) _ _ _ = _
  rw [show mr_mxl 129 = 3 from by decide +kernel]
  rfl
theorem r_mo_has (a0 : Int32) (a1 : Int32) (h : mr_h) (Q : Option Value → mr_h → Prop) : mr_run 130 [.int a0, .int a1] h Q = mr_wp 130 0 [.int a0, .int a1] [] h Q := by
  show mr_wp _ _ (mr_ent _ (mr_mxl 130)) _ _ _ = _
  rw [show mr_mxl 130 = 2 from by decide +kernel]
  rfl
theorem r_mo_node (a0 : Nat) (a1 : Int32) (a2 : Int32) (h : mr_h) (Q : Option Value → mr_h → Prop) : mr_run 131 [.ref a0, .int a1, .int a2] h Q = mr_wp 131 0 [.ref a0, .int a1, .int a2] [] h Q := by
  show mr_wp _ _ (mr_ent _ (mr_mxl 131)) _ _ _ = _
  rw [show mr_mxl 131 = 3 from by decide +kernel]
  rfl
theorem r_mo_isNode (a0 : Nat) (a1 : Int32) (h : mr_h) (Q : Option Value → mr_h → Prop) : mr_run 132 [.ref a0, .int a1] h Q = mr_wp 132 0 [.ref a0, .int a1] [] h Q := by
  show mr_wp _ _ (mr_ent _ (mr_mxl 132)) _ _ _ = _
  rw [show mr_mxl 132 = 2 from by decide +kernel]
  rfl
theorem r_mo_comesBy (a0 : Nat) (a1 : Nat) (a2 : Nat) (h : mr_h) (Q : Option Value → mr_h → Prop) : mr_run 133 [.ref a0, .ref a1, .ref a2] h Q = mr_wp 133 0 [.ref a0, .ref a1, .ref a2, .null, .null] [] h Q := by
  show mr_wp _ _ (mr_ent _ (mr_mxl 133)) _ _ _ = _
  rw [show mr_mxl 133 = 5 from by decide +kernel]
  rfl
theorem r_mo_nameOf (a0 : Nat) (a1 : Int32) (h : mr_h) (Q : Option Value → mr_h → Prop) : mr_run 134 [.ref a0, .int a1] h Q = mr_wp 134 0 [.ref a0, .int a1] [] h Q := by
  show mr_wp _ _ (mr_ent _ (mr_mxl 134)) _ _ _ = _
  rw [show mr_mxl 134 = 2 from by decide +kernel]
  rfl
theorem r_mo_ringOf (a0 : Nat) (a1 : Int32) (h : mr_h) (Q : Option Value → mr_h → Prop) : mr_run 135 [.ref a0, .int a1] h Q = mr_wp 135 0 [.ref a0, .int a1] [] h Q := by
  show mr_wp _ _ (mr_ent _ (mr_mxl 135)) _ _ _ = _
  rw [show mr_mxl 135 = 2 from by decide +kernel]
  rfl
theorem r_mo_comingTo (a0 : Nat) (a1 : Int32) (h : mr_h) (Q : Option Value → mr_h → Prop) : mr_run 136 [.ref a0, .int a1] h Q = mr_wp 136 0 [.ref a0, .int a1, .null, .null] [] h Q := by
  show mr_wp _ _ (mr_ent _ (mr_mxl 136)) _ _ _ = _
  rw [show mr_mxl 136 = 4 from by decide +kernel]
  rfl
theorem r_mo_lowest (a0 : Int32) (h : mr_h) (Q : Option Value → mr_h → Prop) : mr_run 137 [.int a0] h Q = mr_wp 137 0 [.int a0, .null] [] h Q := by
  show mr_wp _ _ (mr_ent _ (mr_mxl 137)) _ _ _ = _
  rw [show mr_mxl 137 = 2 from by decide +kernel]
  rfl
theorem r_mo_names (a0 : Nat) (h : mr_h) (Q : Option Value → mr_h → Prop) : mr_run 138 [.ref a0] h Q = mr_wp 138 0 [.ref a0, .null, .null] [] h Q := by
  show mr_wp _ _ (mr_ent _ (mr_mxl 138)) _ _ _ = _
  rw [show mr_mxl 138 = 3 from by decide +kernel]
  rfl
theorem r_mo_inOf (a0 : Nat) (a1 : Int32) (a2 : Int32) (h : mr_h) (Q : Option Value → mr_h → Prop) : mr_run 139 [.ref a0, .int a1, .int a2] h Q = mr_wp 139 0 [.ref a0, .int a1, .int a2, .null, .null, .null] [] h Q := by
  show mr_wp _ _ (mr_ent _ (mr_mxl 139)) _ _ _ = _
  rw [show mr_mxl 139 = 6 from by decide +kernel]
  rfl
theorem r_mo_isLabel (a0 : Nat) (a1 : Int32) (a2 : Int32) (a3 : Int32) (a4 : Int32) (h : mr_h) (Q : Option Value → mr_h → Prop) : mr_run 140 [.ref a0, .int a1, .int a2, .int a3, .int a4] h Q = mr_wp 140 0 [.ref a0, .int a1, .int a2, .int a3, .int a4, .null, .null] [] h Q := by
  show mr_wp _ _ (mr_ent _ (mr_mxl 140)) _ _ _ = _
  rw [show mr_mxl 140 = 7 from by decide +kernel]
  rfl
theorem r_mo_ringRank (a0 : Nat) (a1 : Int32) (h : mr_h) (Q : Option Value → mr_h → Prop) : mr_run 141 [.ref a0, .int a1] h Q = mr_wp 141 0 [.ref a0, .int a1, .null, .null, .null] [] h Q := by
  show mr_wp _ _ (mr_ent _ (mr_mxl 141)) _ _ _ = _
  rw [show mr_mxl 141 = 5 from by decide +kernel]
  rfl
theorem r_mo_outOf (a0 : Nat) (a1 : Int32) (a2 : Int32) (h : mr_h) (Q : Option Value → mr_h → Prop) : mr_run 142 [.ref a0, .int a1, .int a2] h Q = mr_wp 142 0 [.ref a0, .int a1, .int a2, .null, .null, .null] [] h Q := by
  show mr_wp _ _ (mr_ent _ (mr_mxl 142)) _ _ _ = _
  rw [show mr_mxl 142 = 6 from by decide +kernel]
  rfl
theorem r_mo_edge (a0 : Nat) (a1 : Int32) (a2 : Int32) (h : mr_h) (Q : Option Value → mr_h → Prop) : mr_run 143 [.ref a0, .int a1, .int a2] h Q = mr_wp 143 0 [.ref a0, .int a1, .int a2] [] h Q := by
  show mr_wp _ _ (mr_ent _ (mr_mxl 143)) _ _ _ = _
  rw [show mr_mxl 143 = 3 from by decide +kernel]
  rfl
theorem r_mo_isTwo (a0 : Nat) (a1 : Int32) (a2 : Int32) (h : mr_h) (Q : Option Value → mr_h → Prop) : mr_run 144 [.ref a0, .int a1, .int a2] h Q = mr_wp 144 0 [.ref a0, .int a1, .int a2] [] h Q := by
  show mr_wp _ _ (mr_ent _ (mr_mxl 144)) _ _ _ = _
  rw [show mr_mxl 144 = 3 from by decide +kernel]
  rfl
theorem r_mo_now (a0 : Nat) (a1 : Int32) (h : mr_h) (Q : Option Value → mr_h → Prop) : mr_run 145 [.ref a0, .int a1] h Q = mr_wp 145 0 [.ref a0, .int a1] [] h Q := by
  show mr_wp _ _ (mr_ent _ (mr_mxl 145)) _ _ _ = _
  rw [show mr_mxl 145 = 2 from by decide +kernel]
  rfl
theorem r_mo_edges (a0 : Nat) (a1 : Nat) (h : mr_h) (Q : Option Value → mr_h → Prop) : mr_run 146 [.ref a0, .ref a1] h Q = mr_wp 146 0 [.ref a0, .ref a1, .null, .null] [] h Q := by
  show mr_wp _ _ (mr_ent _ (mr_mxl 146)) _ _ _ = _
  rw [show mr_mxl 146 = 4 from by decide +kernel]
  rfl
theorem r_mo_ones (a0 : Int32) (h : mr_h) (Q : Option Value → mr_h → Prop) : mr_run 147 [.int a0] h Q = mr_wp 147 0 [.int a0, .null, .null] [] h Q := by
  show mr_wp _ _ (mr_ent _ (mr_mxl 147)) _ _ _ = _
  rw [show mr_mxl 147 = 3 from by decide +kernel]
  rfl
theorem r_mo_labels (a0 : Nat) (h : mr_h) (Q : Option Value → mr_h → Prop) : mr_run 148 [.ref a0] h Q = mr_wp 148 0 [.ref a0, .null, .null, .null] [] h Q := by
  show mr_wp _ _ (mr_ent _ (mr_mxl 148)) _ _ _ = _
  rw [show mr_mxl 148 = 4 from by decide +kernel]
  rfl
theorem r_mo_pairsOf (a0 : Nat) (a1 : Nat) (h : mr_h) (Q : Option Value → mr_h → Prop) : mr_run 149 [.ref a0, .ref a1] h Q = mr_wp 149 0 [.ref a0, .ref a1, .null, .null] [] h Q := by
  show mr_wp _ _ (mr_ent _ (mr_mxl 149)) _ _ _ = _
  rw [show mr_mxl 149 = 4 from by decide +kernel]
  rfl
theorem r_mo_spares (a0 : Nat) (h : mr_h) (Q : Option Value → mr_h → Prop) : mr_run 150 [.ref a0] h Q = mr_wp 150 0 [.ref a0, .null, .null, .null, .null] [] h Q := by
  show mr_wp _ _ (mr_ent _ (mr_mxl 150)) _ _ _ = _
  rw [show mr_mxl 150 = 5 from by decide +kernel]
  rfl
theorem r_mo_pairsNow (a0 : Nat) (h : mr_h) (Q : Option Value → mr_h → Prop) : mr_run 151 [.ref a0] h Q = mr_wp 151 0 [.ref a0] [] h Q := by
  show mr_wp _ _ (mr_ent _ (mr_mxl 151)) _ _ _ = _
  rw [show mr_mxl 151 = 1 from by decide +kernel]
  rfl
theorem r_mo_pairsWith (a0 : Nat) (a1 : Int32) (a2 : Int32) (h : mr_h) (Q : Option Value → mr_h → Prop) : mr_run 152 [.ref a0, .int a1, .int a2] h Q = mr_wp 152 0 [.ref a0, .int a1, .int a2] [] h Q := by
  show mr_wp _ _ (mr_ent _ (mr_mxl 152)) _ _ _ = _
  rw [show mr_mxl 152 = 3 from by decide +kernel]
  rfl
theorem r_mo_asNow (a0 : Nat) (h : mr_h) (Q : Option Value → mr_h → Prop) : mr_run 153 [.ref a0] h Q = mr_wp 153 0 [.ref a0, .null] [] h Q := by
  show mr_wp _ _ (mr_ent _ (mr_mxl 153)) _ _ _ = _
  rw [show mr_mxl 153 = 2 from by decide +kernel]
  rfl
theorem r_mo_lone (a0 : Nat) (h : mr_h) (Q : Option Value → mr_h → Prop) : mr_run 154 [.ref a0] h Q = mr_wp 154 0 [.ref a0, .null, .null, .null, .null] [] h Q := by
  show mr_wp _ _ (mr_ent _ (mr_mxl 154)) _ _ _ = _
  rw [show mr_mxl 154 = 5 from by decide +kernel]
  rfl
theorem r_mo_chain (a0 : Nat) (h : mr_h) (Q : Option Value → mr_h → Prop) : mr_run 155 [.ref a0] h Q = mr_wp 155 0 [.ref a0, .null, .null, .null, .null, .null, .null] [] h Q := by
  show mr_wp _ _ (mr_ent _ (mr_mxl 155)) _ _ _ = _
  rw [show mr_mxl 155 = 7 from by decide +kernel]
  rfl
theorem r_mo_adds (a0 : Nat) (a1 : Int32) (a2 : Int32) (h : mr_h) (Q : Option Value → mr_h → Prop) : mr_run 156 [.ref a0, .int a1, .int a2] h Q = mr_wp 156 0 [.ref a0, .int a1, .int a2] [] h Q := by
  show mr_wp _ _ (mr_ent _ (mr_mxl 156)) _ _ _ = _
  rw [show mr_mxl 156 = 3 from by decide +kernel]
  rfl
theorem r_mo_notes (a0 : Nat) (h : mr_h) (Q : Option Value → mr_h → Prop) : mr_run 157 [.ref a0] h Q = mr_wp 157 0 [.ref a0, .null] [] h Q := by
  show mr_wp _ _ (mr_ent _ (mr_mxl 157)) _ _ _ = _
  rw [show mr_mxl 157 = 2 from by decide +kernel]
  rfl
theorem r_mo_cuts (a0 : Nat) (a1 : Int32) (a2 : Int32) (h : mr_h) (Q : Option Value → mr_h → Prop) : mr_run 158 [.ref a0, .int a1, .int a2] h Q = mr_wp 158 0 [.ref a0, .int a1, .int a2] [] h Q := by
  show mr_wp _ _ (mr_ent _ (mr_mxl 158)) _ _ _ = _
  rw [show mr_mxl 158 = 3 from by decide +kernel]
  rfl
theorem r_mo_ranks (a0 : Nat) (h : mr_h) (Q : Option Value → mr_h → Prop) : mr_run 159 [.ref a0] h Q = mr_wp 159 0 [.ref a0, .null, .null, .null] [] h Q := by
  show mr_wp _ _ (mr_ent _ (mr_mxl 159)) _ _ _ = _
  rw [show mr_mxl 159 = 4 from by decide +kernel]
  rfl
theorem r_mo_weight (a0 : Nat) (a1 : Int32) (h : mr_h) (Q : Option Value → mr_h → Prop) : mr_run 160 [.ref a0, .int a1] h Q = mr_wp 160 0 [.ref a0, .int a1, .null, .null] [] h Q := by
  show mr_wp _ _ (mr_ent _ (mr_mxl 160)) _ _ _ = _
  rw [show mr_mxl 160 = 4 from by decide +kernel]
  rfl
theorem r_mo_undo (a0 : Nat) (h : mr_h) (Q : Option Value → mr_h → Prop) : mr_run 161 [.ref a0] h Q = mr_wp 161 0 [.ref a0, .null] [] h Q := by
  show mr_wp _ _ (mr_ent _ (mr_mxl 161)) _ _ _ = _
  rw [show mr_mxl 161 = 2 from by decide +kernel]
  rfl
theorem r_mo_comes (a0 : Nat) (a1 : Int32) (a2 : Int32) (h : mr_h) (Q : Option Value → mr_h → Prop) : mr_run 162 [.ref a0, .int a1, .int a2] h Q = mr_wp 162 0 [.ref a0, .int a1, .int a2] [] h Q := by
  show mr_wp _ _ (mr_ent _ (mr_mxl 162)) _ _ _ = _
  rw [show mr_mxl 162 = 3 from by decide +kernel]
  rfl
theorem r_mo_hub (a0 : Nat) (a1 : Int32) (a2 : Int32) (h : mr_h) (Q : Option Value → mr_h → Prop) : mr_run 163 [.ref a0, .int a1, .int a2] h Q = mr_wp 163 0 [.ref a0, .int a1, .int a2, .null, .null, .null, .null] [] h Q := by
  show mr_wp _ _ (mr_ent _ (mr_mxl 163)) _ _ _ = _
  rw [show mr_mxl 163 = 7 from by decide +kernel]
  rfl
theorem r_mo_way (a0 : Nat) (a1 : Int32) (a2 : Int32) (a3 : Int32) (h : mr_h) (Q : Option Value → mr_h → Prop) : mr_run 164 [.ref a0, .int a1, .int a2, .int a3] h Q = mr_wp 164 0 [.ref a0, .int a1, .int a2, .int a3, .null, .null, .null] [] h Q := by
  show mr_wp _ _ (mr_ent _ (mr_mxl 164)) _ _ _ = _
  rw [show mr_mxl 164 = 7 from by decide +kernel]
  rfl
theorem r_mo_measures (a0 : Nat) (a1 : Int32) (h : mr_h) (Q : Option Value → mr_h → Prop) : mr_run 165 [.ref a0, .int a1] h Q = mr_wp 165 0 [.ref a0, .int a1, .null, .null, .null] [] h Q := by
  show mr_wp _ _ (mr_ent _ (mr_mxl 165)) _ _ _ = _
  rw [show mr_mxl 165 = 5 from by decide +kernel]
  rfl
theorem r_mo_on (a0 : Nat) (a1 : Int32) (a2 : Int32) (a3 : Int32) (h : mr_h) (Q : Option Value → mr_h → Prop) : mr_run 166 [.ref a0, .int a1, .int a2, .int a3] h Q = mr_wp 166 0 [.ref a0, .int a1, .int a2, .int a3, .null, .null] [] h Q := by
  show mr_wp _ _ (mr_ent _ (mr_mxl 166)) _ _ _ = _
  rw [show mr_mxl 166 = 6 from by decide +kernel]
  rfl
theorem r_mo_loss (a0 : Nat) (a1 : Int32) (a2 : Int32) (a3 : Int32) (h : mr_h) (Q : Option Value → mr_h → Prop) : mr_run 167 [.ref a0, .int a1, .int a2, .int a3] h Q = mr_wp 167 0 [.ref a0, .int a1, .int a2, .int a3, .null] [] h Q := by
  show mr_wp _ _ (mr_ent _ (mr_mxl 167)) _ _ _ = _
  rw [show mr_mxl 167 = 5 from by decide +kernel]
  rfl
theorem r_mo_gain (a0 : Nat) (a1 : Int32) (a2 : Int32) (h : mr_h) (Q : Option Value → mr_h → Prop) : mr_run 168 [.ref a0, .int a1, .int a2] h Q = mr_wp 168 0 [.ref a0, .int a1, .int a2] [] h Q := by
  show mr_wp _ _ (mr_ent _ (mr_mxl 168)) _ _ _ = _
  rw [show mr_mxl 168 = 3 from by decide +kernel]
  rfl
theorem r_mo_best (a0 : Nat) (a1 : Int32) (h : mr_h) (Q : Option Value → mr_h → Prop) : mr_run 169 [.ref a0, .int a1] h Q = mr_wp 169 0 [.ref a0, .int a1, .null, .null, .null, .null, .null, .null] [] h Q := by
  show mr_wp _ _ (mr_ent _ (mr_mxl 169)) _ _ _ = _
  rw [show mr_mxl 169 = 8 from by decide +kernel]
  rfl
theorem r_mo_odds (a0 : Nat) (a1 : Int32) (a2 : Int32) (a3 : Int32) (a4 : Int32) (h : mr_h) (Q : Option Value → mr_h → Prop) : mr_run 170 [.ref a0, .int a1, .int a2, .int a3, .int a4] h Q = mr_wp 170 0 [.ref a0, .int a1, .int a2, .int a3, .int a4, .null, .null, .null, .null, .null, .null, .null, .null, .null, .null, .null, .null] [] h Q := by
  show mr_wp _ _ (mr_ent _ (mr_mxl 170)) _ _ _ = _
  rw [show mr_mxl 170 = 17 from by decide +kernel]
  rfl
theorem r_mo_gcd (a0 : Int64) (a1 : Int64) (h : mr_h) (Q : Option Value → mr_h → Prop) : mr_run 171 [.long a0, .long a1] h Q = mr_wp 171 0 [.long a0, .null, .long a1, .null, .null, .null, .null, .null, .null, .null] [] h Q := by
  show mr_wp _ _ (mr_ent _ (mr_mxl 171)) _ _ _ = _
  rw [show mr_mxl 171 = 10 from by decide +kernel]
  rfl
theorem r_mo_sees (a0 : Nat) (a1 : Int32) (a2 : Int32) (a3 : Int32) (h : mr_h) (Q : Option Value → mr_h → Prop) : mr_run 172 [.ref a0, .int a1, .int a2, .int a3] h Q = mr_wp 172 0 [.ref a0, .int a1, .int a2, .int a3] [] h Q := by
  show mr_wp _ _ (mr_ent _ (mr_mxl 172)) _ _ _ = _
  rw [show mr_mxl 172 = 4 from by decide +kernel]
  rfl
theorem r_mo_forget (a0 : Nat) (h : mr_h) (Q : Option Value → mr_h → Prop) : mr_run 173 [.ref a0] h Q = mr_wp 173 0 [.ref a0, .null] [] h Q := by
  show mr_wp _ _ (mr_ent _ (mr_mxl 173)) _ _ _ = _
  rw [show mr_mxl 173 = 2 from by decide +kernel]
  rfl
theorem r_mo_unseen (a0 : Nat) (a1 : Int32) (h : mr_h) (Q : Option Value → mr_h → Prop) : mr_run 174 [.ref a0, .int a1] h Q = mr_wp 174 0 [.ref a0, .int a1, .null] [] h Q := by
  show mr_wp _ _ (mr_ent _ (mr_mxl 174)) _ _ _ = _
  rw [show mr_mxl 174 = 3 from by decide +kernel]
  rfl
theorem r_mo_unseenMany (a0 : Nat) (h : mr_h) (Q : Option Value → mr_h → Prop) : mr_run 175 [.ref a0] h Q = mr_wp 175 0 [.ref a0, .null, .null, .null, .null] [] h Q := by
  show mr_wp _ _ (mr_ent _ (mr_mxl 175)) _ _ _ = _
  rw [show mr_mxl 175 = 5 from by decide +kernel]
  rfl
theorem r_mo_canBe (a0 : Nat) (a1 : Int32) (a2 : Int32) (h : mr_h) (Q : Option Value → mr_h → Prop) : mr_run 176 [.ref a0, .int a1, .int a2] h Q = mr_wp 176 0 [.ref a0, .int a1, .int a2, .null, .null] [] h Q := by
  show mr_wp _ _ (mr_ent _ (mr_mxl 176)) _ _ _ = _
  rw [show mr_mxl 176 = 5 from by decide +kernel]
  rfl
theorem r_mo_next (a0 : Nat) (h : mr_h) (Q : Option Value → mr_h → Prop) : mr_run 177 [.ref a0] h Q = mr_wp 177 0 [.ref a0, .null, .null, .null, .null, .null, .null, .null] [] h Q := by
  show mr_wp _ _ (mr_ent _ (mr_mxl 177)) _ _ _ = _
  rw [show mr_mxl 177 = 8 from by decide +kernel]
  rfl
theorem r_mo_keep (a0 : Nat) (a1 : Int32) (h : mr_h) (Q : Option Value → mr_h → Prop) : mr_run 178 [.ref a0, .int a1] h Q = mr_wp 178 0 [.ref a0, .int a1, .null] [] h Q := by
  show mr_wp _ _ (mr_ent _ (mr_mxl 178)) _ _ _ = _
  rw [show mr_mxl 178 = 3 from by decide +kernel]
  rfl
theorem r_mo_back (a0 : Nat) (a1 : Int32) (h : mr_h) (Q : Option Value → mr_h → Prop) : mr_run 179 [.ref a0, .int a1] h Q = mr_wp 179 0 [.ref a0, .int a1, .null] [] h Q := by
  show mr_wp _ _ (mr_ent _ (mr_mxl 179)) _ _ _ = _
  rw [show mr_mxl 179 = 3 from by decide +kernel]
  rfl
theorem r_mo_count (a0 : Nat) (a1 : Int32) (h : mr_h) (Q : Option Value → mr_h → Prop) : mr_run 180 [.ref a0, .int a1] h Q = mr_wp 180 0 [.ref a0, .int a1] [] h Q := by
  show mr_wp _ _ (mr_ent _ (mr_mxl 180)) _ _ _ = _
  rw [show mr_mxl 180 = 2 from by decide +kernel]
  rfl
theorem r_law_law  (h : mr_h) (Q : Option Value → mr_h → Prop) : mr_run 181 [.retAddr 0] h Q = mr_wp 181 0 [.retAddr 0, .null, .null, .null] [] h Q := by
  show mr_wp _ _ (mr_ent _ (mr_mxl 181)) _ _ _ = _
  rw [show mr_mxl 181 = 4 from by decide +kernel]
  rfl
