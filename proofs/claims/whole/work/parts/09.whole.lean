/-! calls, and the theorem of the mirror: where it ends with r, so does the machine -/
theorem mr_rest_sum {b base : Nat} {rs : List Value} (h : rs.length ≤ 4 ∨ (rs.map fun v => v.category).sum ≤ 8) : ((rs.map (mr_v b base)).map fun v => v.category).sum ≤ 8 := by
  rcases h with h | h
  · exact mr_stk_sum h
  · rw [List.map_map]
    have e : ((fun v : Value => v.category) ∘ mr_v b base) = (fun v => v.category) := funext fun v => mr_v_cat b base v
    rw [e]
    exact h
def mr_ra (q : mr_R) (pc : Nat) (r : Option Value) : Prop :=
  (∃ v : Int32, decode (mr_bytes q) pc = .ok (.ireturn, 1) ∧ r = some (.int v) ∧ (mr_ret q = some .int ∨ (mr_ret q = some .boolean ∧ v &&& 1 = v))) ∨
  (∃ v : Int64, decode (mr_bytes q) pc = .ok (.lreturn, 1) ∧ r = some (.long v) ∧ mr_ret q = some .long) ∨ (decode (mr_bytes q) pc = .ok (.return_, 1) ∧ r = none ∧ mr_ret q = none)
theorem mr_rt_ok {M len pc : Nat} {i : Instr} {st : List Value} {r : Option Value} {q : mr_R} (hq : mr_M[M]? = some q) (hd : decode (mr_bytes q) pc = .ok (i, len)) (h : mr_rt M i len st = some r) : st = r.toList ∧ mr_ra q pc r ∧ ∀ b base, r.toList.map (mr_v b base) = r.toList := by
  have ht : mr_rty M = mr_ret q := by simp [mr_rty, hq]
  unfold mr_rt at h
  split at h
  · rename_i e
    subst e
    split at h
    · split at h
      · rename_i hc
        cases h
        rw [ht] at hc
        exact ⟨rfl, Or.inl ⟨_, hd, rfl, hc⟩, fun _ _ => rfl⟩
      · cases h
    · split at h
      · rename_i hc
        cases h
        rw [ht] at hc
        exact ⟨rfl, Or.inr (Or.inl ⟨_, hd, rfl, hc⟩), fun _ _ => rfl⟩
      · cases h
    · split at h
      · rename_i hc
        cases h
        rw [ht] at hc
        exact ⟨rfl, Or.inr (Or.inr ⟨hd, rfl, hc⟩), fun _ _ => rfl⟩
      · cases h
    · cases h
  · cases h
theorem mr_ft_ok {M pc : Nat} {z : Instr × Nat} {q : mr_R} (hq : mr_M[M]? = some q) (h : mr_ft M pc = some z) : decode (mr_bytes q) pc = .ok z := by
  unfold mr_ft at h
  rw [hq] at h
  dsimp only at h
  split at h
  · rename_i r hr
    cases h
    exact hr
  · cases h
theorem mr_ft_some {M pc : Nat} {z : Instr × Nat} (h : mr_ft M pc = some z) : ∃ q, mr_M[M]? = some q := by
  unfold mr_ft at h
  split at h
  · cases h
  · rename_i q hq
    exact ⟨q, hq⟩
theorem mr_ex_val : ∀ (n M pc : Nat) (lv st : List Value) (h : mr_h) (r : Option Value) (h' : mr_h), mr_ex n M pc lv st h = some (r, h') → ∀ b base, r.toList.map (mr_v b base) = r.toList := by
  intro n
  induction n with
  | zero => intro M pc lv st h r h' he; simp [mr_ex] at he
  | succ n ih =>
    intro M pc lv st h r h' he
    unfold mr_ex at he
    split at he
    · cases he
    · rename_i hf
      split at he
      · exact ih _ _ _ _ _ _ _ he
      · split at he
        · split at he
          · split at he
            · exact ih _ _ _ _ _ _ _ he
            · cases he
          · cases he
        · split at he
          · rename_i hr
            cases he
            obtain ⟨q, hq⟩ := mr_ft_some hf
            exact (mr_rt_ok hq (mr_ft_ok hq hf) hr).2.2
          · cases he
theorem mr_tk_ok : ∀ (n : Nat) (st acc as r : List Value), mr_tk n st acc = some (as, r) → ∃ pre : List Value, st = pre ++ r ∧ as = pre.reverse ++ acc ∧ pre.length = n := by
  intro n
  induction n with
  | zero => intro st acc as r h; simp only [mr_tk] at h; cases h; exact ⟨[], rfl, rfl, rfl⟩
  | succ n ih =>
    intro st acc as r h
    cases st with
    | nil => simp [mr_tk] at h
    | cons v st =>
      simp only [mr_tk] at h
      obtain ⟨pre, h1, h2, h3⟩ := ih _ _ _ _ h
      exact ⟨v :: pre, by rw [h1]; rfl, by rw [h2]; simp, by simp [h3]⟩
theorem mr_lk_ok {M x kd t n : Nat} {q : mr_R} (hq : mr_M[M]? = some q) (h : mr_lk M x kd = some (t, n)) : ∃ r, mr_M[t]? = some r ∧ mr_tl M x = some t ∧ mr_hg r < mr_hg q ∧ mr_kd r = kd ∧ t < 181 ∧ r.1 ≠ 14 ∧ n = mr_na r ∧ mr_yOf t = mr_y r := by
  unfold mr_lk at h
  split at h
  · rename_i t' q' h1 h2
    cases hq.symm.trans h2
    split at h
    · rename_i r hr
      split at h
      · rename_i hc
        cases h
        refine ⟨r, hr, h1, hc.1, hc.2.1, hc.2.2.1, hc.2.2.2, rfl, ?_⟩
        have := hc.2.2.1
        unfold mr_yOf
        rw [if_neg (by omega), if_neg (by omega), if_neg (by omega), if_neg (by omega), hr]
      · cases h
    · cases h
  · cases h
def mr_Pc (D : va_G) (b base : Nat) (cs : mr_q) (as : List Value) (h : mr_h) : Array Value → State → Prop := fun v U => v = (as.map (mr_v b base)).toArray ∧ mr_w D b base cs U h U.heap ∧ mr_K D cs U
def mr_Qc (D : va_G) (b base : Nat) (cs : mr_q) (r : Option Value) (h' : mr_h) : Array Value → State → Outcome → State → Prop := fun _ _ oc t => oc = .returned r ∧ mr_w D b base cs t h' t.heap
def mr_ws (q : mr_R) : List Cond := .code (mr_y q) (mr_bytes q) (mr_maxL q) (mr_ret q) :: mr_tt
theorem mr_Pc_blind {D : va_G} {b base : Nat} {cs : mr_q} {as : List Value} {h : mr_h} : FrameBlind (mr_Pc D b base cs as h) := fun a U g mk hp =>
  ⟨hp.1, mr_w.moved (s := U) (U := U.calling g mk a) (Vm.Alike.refl U.vm) hp.2.1, mr_K.same (s := U) (U := U.calling g mk a) rfl hp.2.2⟩
theorem mr_good {q : mr_R} (h : (Cond.code (mr_y q) (mr_bytes q) (mr_maxL q) (mr_ret q)) ∈ mr_tt) : GoodIn mr_tt (mr_ws q) := by
  intro w hw
  rcases List.mem_cons.mp hw with z | z
  · subst z; exact ⟨h, mr_tt_good h⟩
  · exact ⟨z, mr_tt_good z⟩
/-- soundness for runs of at most n steps -/
def mr_S (l : Launch) (n : Nat) : Prop := ∀ (M pc : Nat) (lv st : List Value) (h : mr_h) (r : Option Value) (h' : mr_h), mr_ex n M pc lv st h = some (r, h') →
  ∀ (p : Program) (e : Env) (R : Room) (s : State) (m : MethodId) (args : Array Value) (below : List Frame) (meth : Method) (c : Code) (H : Heap) (locs : List Loc) (cells slots : Nat) (Q : State → Prop) (ls : Array Slot) (D : va_G) (b base : Nat) (cs : mr_q) (q : mr_R),
    mr_x p R s m args meth c D cs q → mr_M[M]? = some q → mr_w D b base cs s h H → mr_lv b base lv ls c.maxLocals → (∀ z ∈ locs, base ≤ z.base) → cells + (h'.2.1 - h.2.1) ≤ R.cells → slots + (h'.2.2.1 - h.2.2.1) ≤ R.slots →
    (∀ (H1 : Heap) (locs1 : List Loc) (ls1 : Array Slot) (pc1 : Nat), mr_w D b base cs s h' H1 → (∀ z ∈ locs1, base ≤ z.base) → mr_ra q pc1 r → W p l e R s m args below meth c H1 locs1 (cells + (h'.2.1 - h.2.1)) (slots + (h'.2.2.1 - h.2.2.1)) Q (F0 m pc1 ls1 r.toList)) →
    W p l e R s m args below meth c H locs cells slots Q (F0 m pc ls (st.map (mr_v b base)))
theorem mr_met {l : Launch} {n : Nat} (ih : mr_S l n) {t : Nat} {q : mr_R} {as : List Value} {h h' : mr_h} {r : Option Value} (hq : mr_M[t]? = some q) (ht : t < 181) (h14 : q.1 ≠ 14) (hn : (mr_sl as).length ≤ mr_maxL q) (he : mr_ex n t 0 (mr_ent as (mr_maxL q)) [] h = some (r, h')) (D : va_G) (b base : Nat) (cs : mr_q) :
    Met l (mr_y q) (mr_ws q) { frames := mr_hg q, cells := h'.2.1 - h.2.1, slots := h'.2.2.1 - h.2.2.1, locals := 36 * mr_hg q } (mr_Pc D b base cs as h) (mr_Qc D b base cs r h') (h'.2.1 - h.2.1) (h'.2.2.1 - h.2.2.1) (fun z => base ≤ z) := by
  obtain ⟨m1, m2, m3, m4, m5, m6, m7, m8, m9⟩ := mr_M_ok hq ht h14
  refine Met.ofW (cc := mr_bytes q) (maxL := mr_maxL q) (ret := mr_ret q) m8 rfl ?_
  intro p e s m args below meth c s₁ B hml hv
  obtain ⟨hv1, hw, hK⟩ := hv
  subst hv1
  have hts := atoms_spec (ws := mr_ws q) B.pre
  rw [lg_entry_eq]
  refine ih t 0 (mr_ent as (mr_maxL q)) [] h r h' he p e _ s m _ below meth c s.heap [] 0 0 _ _ D b base cs q ⟨B.exec, B.bytes, hml, findClass_of_methodNamed B.named, fun w hw => hts w (List.mem_cons_of_mem _ hw), hK, Nat.le_refl _, Nat.le_refl _, fun z => (name_of_methodNamed B.named B.method).1.trans (m6 z).1⟩ hq hw (by rw [hml]; exact mr_ent_lv hn) (fun z hz => by cases hz) (by show 0 + _ ≤ h'.2.1 - h.2.1; omega) (by show 0 + _ ≤ h'.2.2.1 - h.2.2.1; omega) ?_
  intro H1 locs1 ls1 pc1 hw1 hloc1 hra
  refine W.cs (cells' := h'.2.1 - h.2.1) (slots' := h'.2.2.1 - h.2.2.1) (by omega) (by omega) ?_
  have hQ : ∀ t : State, t.heap = H1 → s.WarmedH t.vm → mr_Qc D b base cs r h' ((as.map (mr_v b base)).toArray) s (.returned r) t := fun t ht hW => ⟨rfl, by rw [ht]; exact hw1.moved hW.alike⟩
  have hlocks := B.notSynchronized
  rcases hra with ⟨v, d1, rfl, d3⟩ | ⟨v, d1, rfl, d3⟩ | ⟨d1, rfl, d3⟩
  · rcases d3 with d3 | ⟨d3, d4⟩
    · exact W.iret B.exec B.bytes (by rw [B.returns]; exact d3) hQ hloc1 d1 hlocks
    · exact W.zret B.exec B.bytes (by rw [B.returns]; exact d3) (by show Value.int (v &&& 1) = .int v; rw [d4]) hQ hloc1 d1 hlocks
  · exact W.lret B.exec B.bytes (by rw [B.returns]; exact d3) hQ hloc1 d1 hlocks
  · exact W.vret B.exec B.bytes (by rw [B.returns]; exact d3) hQ hloc1 d1 hlocks
section MRC
variable {p : Program} {l : Launch} {e : Env} {R : Room} {s : State} {m : MethodId} {args : Array Value} {below : List Frame} {meth : Method} {c : Code} {H : Heap} {locs : List Loc} {cells slots : Nat} {Q : State → Prop}
variable {pc : Nat} {ls : Array Slot} {D : va_G} {b base : Nat} {cs : mr_q} {h h' : mr_h} {q : mr_R} {M : Nat}
theorem mr_go {mc ms : Nat} {st0 rest : List Value} {r : Option Value} {A : Array Value} (hr : va_Run p l e R s m args below meth c H locs cells slots mc ms (F0 m pc ls st0) rest (mr_Qc D b base cs r h' A) (fun z => base ≤ z)) (hloc : ∀ z ∈ locs, base ≤ z.base)
    (kk : ∀ (H1 : Heap) (locs1 : List Loc), mr_w D b base cs s h' H1 → (∀ z ∈ locs1, base ≤ z.base) → W p l e R s m args below meth c H1 locs1 (cells + mc) (slots + ms) Q (F0 m (pc + 3) ls (r.toList ++ rest))) : W p l e R s m args below meth c H locs cells slots Q (F0 m pc ls st0) := by
  intro T hT X
  obtain ⟨v, st₀, t, T', L, h0, X', hL, e1, e2, ⟨hv, hw1⟩, st⟩ := hr T hT X
  cases hv
  have hw2 : mr_w D b base cs s h' T'.heap := by
    rw [e1]
    exact hw1.moved (by rw [← e2]; exact X'.warmed.alike.symm)
  obtain ⟨t2, a1, b1⟩ := kk T'.heap (locs ++ L) hw2 (fun z hz => (List.mem_append.mp hz).elim (hloc z) (hL z)) T' rfl X'
  exact ⟨t2, st t2 a1, b1⟩
theorem mr_cal_snd {n : Nat} (ih : mr_S l n) (hX : mr_x p R s m args meth c D cs q) (hq : mr_M[M]? = some q) {i : Instr} {len : Nat} (hd : decode (mr_bytes q) pc = .ok (i, len)) {st as rs : List Value} {t : Nat} {r : Option Value} (hc : mr_cal M i len st h = some (t, as, rs)) (hn : (mr_sl as).length ≤ mr_mxl t) (he : mr_ex n t 0 (mr_ent as (mr_mxl t)) [] h = some (r, h'))
    (hw : mr_w D b base cs s h H) (hls : ls.size = c.maxLocals) (hloc : ∀ z ∈ locs, base ≤ z.base) (hcs : cells + (h'.2.1 - h.2.1) ≤ R.cells) (hss : slots + (h'.2.2.1 - h.2.2.1) ≤ R.slots)
    (kk : ∀ (H1 : Heap) (locs1 : List Loc), mr_w D b base cs s h' H1 → (∀ z ∈ locs1, base ≤ z.base) → W p l e R s m args below meth c H1 locs1 (cells + (h'.2.1 - h.2.1)) (slots + (h'.2.2.1 - h.2.2.1)) Q (F0 m (pc + 3) ls ((r.toList ++ rs).map (mr_v b base)))) : W p l e R s m args below meth c H locs cells slots Q (F0 m pc ls (st.map (mr_v b base))) := by
  obtain ⟨hx, hb, hml, hown, hts, hK, hfr, hlo, -⟩ := id hX
  have hval := mr_ex_val _ _ _ _ _ _ _ _ he b base
  have hkk : ∀ (H1 : Heap) (locs1 : List Loc), mr_w D b base cs s h' H1 → (∀ z ∈ locs1, base ≤ z.base) → W p l e R s m args below meth c H1 locs1 (cells + (h'.2.1 - h.2.1)) (slots + (h'.2.2.1 - h.2.2.1)) Q (F0 m (pc + 3) ls (r.toList ++ rs.map (mr_v b base))) := by
    intro H1 locs1 a1 a2
    have := kk H1 locs1 a1 a2
    rw [List.map_append, hval] at this
    exact this
  unfold mr_cal at hc
  split at hc
  · rename_i e0
    subst e0
    split at hc
    · rename_i x
      unfold mr_cs at hc
      split at hc
      · rename_i t' n' hk
        split at hc
        · rename_i as' r' htk
          split at hc
          · rename_i hrl
            cases hc
            obtain ⟨row, k1, k2, k3, k4, k5, k6, k7, k8⟩ := mr_lk_ok hq hk
            obtain ⟨m1, m2, m3, m4, m5, m6, m7, m8, m9⟩ := mr_M_ok k1 k5 k6
            obtain ⟨pre, p1, p2, p3⟩ := mr_tk_ok _ _ _ _ _ htk
            have emx : mr_mxl t = mr_maxL row := by simp [mr_mxl, k1]
            rw [emx] at hn he
            have hM := mr_met ih k1 k5 k6 hn he D b base cs
            have hR : mr_hg row + 1 ≤ R.frames ∧ 8 + (mr_maxL row + 11) + 36 * mr_hg row ≤ R.locals := ⟨by omega, by omega⟩
            have hpre : PreS s H (mr_Pc D b base cs as h) (as.map (mr_v b base)) := ⟨mr_Pc_blind, fun U hU hW => ⟨rfl, by rw [hU]; exact hw.moved hW.alike, hK.warm hW⟩⟩
            have hstk : st.map (mr_v b base) = (as.map (mr_v b base)).reverse ++ rs.map (mr_v b base) := by rw [p1, p2]; simp
            have hlen : (as.map (mr_v b base)).length = mr_na row := by rw [List.length_map, p2]; simp [p3, k7]
            have hsum := mr_rest_sum (b := b) (base := base) hrl
            rcases mr_tl_ok hq k2 hK with z | z
            · rw [k8] at z
              exact mr_go (va_runS ⟨hx, hb, hml, hown, hts⟩ hM ⟨callB_of (mr_na row) hts (mr_good m1) rfl rfl rfl (hts _ m2) (hts _ z) m7 hR, hts _ (m3 k4)⟩ hpre rfl hlen (hls.trans hml) hstk (lv_room (by omega)) hd ⟨hcs, hss⟩) hloc hkk
            · rw [k8] at z
              exact mr_go (va_runSN (host := "ReachLabels") ⟨hx, hb, hml, hown, hts⟩ hM ⟨va_cnB (mr_na row) hts (mr_good m1) rfl rfl rfl z (hts _ m2) m7 hR, hts _ (m3 k4), trivial⟩ hpre rfl hlen (hls.trans hml) hstk (lv_room (by omega)) hd ⟨hcs, hss⟩) hloc hkk
          · cases hc
        · cases hc
      · cases hc
    · rename_i x
      unfold mr_ci at hc
      split at hc
      · rename_i t' n' hk
        split at hc
        · rename_i as' b' r' htk
          split at hc
          · rename_i hrl
            cases hc
            obtain ⟨row, k1, k2, k3, k4, k5, k6, k7, k8⟩ := mr_lk_ok hq hk
            obtain ⟨m1, m2, m3, m4, m5, m6, m7, m8, m9⟩ := mr_M_ok k1 k5 k6
            obtain ⟨pre, p1, p2, p3⟩ := mr_tk_ok _ _ _ _ _ htk
            have emx : mr_mxl t = mr_maxL row := by simp [mr_mxl, k1]
            rw [emx] at hn he
            have hM := mr_met ih k1 k5 k6 hn he D b base cs
            have hR : mr_hg row + 1 ≤ R.frames ∧ 8 + (mr_maxL row + 11) + 36 * mr_hg row ≤ R.locals := ⟨by omega, by omega⟩
            have hpre : PreS s H (mr_Pc D b base cs (.ref b' :: as') h) (.ref (base + b') :: as'.map (mr_v b base)) := ⟨mr_Pc_blind, fun U hU hW => ⟨rfl, by rw [hU]; exact hw.moved hW.alike, hK.warm hW⟩⟩
            have hstk : st.map (mr_v b base) = (as'.map (mr_v b base)).reverse ++ .ref (base + b') :: rs.map (mr_v b base) := by rw [p1, p2]; simp [mr_v]
            have hlen : (as'.map (mr_v b base)).length = mr_na row := by rw [List.length_map, p2]; simp [p3, k7]
            have hsum := mr_rest_sum (b := b) (base := base) hrl
            have hw0 : mr_ws row = Cond.code (mr_y row) (mr_bytes row) (mr_maxL row) none :: mr_tt := by unfold mr_ws; rw [(m6 k4).2]
            rcases mr_tl_ok hq k2 hK with z | z
            · rw [k8] at z
              exact mr_go (va_runI ⟨hx, hb, hml, hown, hts⟩ hM (cwI (mr_na row) hts (mr_good m1) hw0 rfl rfl (hts _ m2) (hts _ z) (hts _ (m4 (by omega))) (m6 k4).1 m7 hR) hpre rfl hlen (hls.trans hml) hstk (lv_room (by omega)) hd ⟨hcs, hss⟩) hloc hkk
            · rw [k8] at z
              exact mr_go (va_runIN (host := "ReachLabels") ⟨hx, hb, hml, hown, hts⟩ hM ⟨va_cnB (mr_na row) hts (mr_good m1) hw0 rfl rfl z (hts _ m2) m7 hR, (m6 k4).1, hts _ (m4 (by omega))⟩ hpre rfl hlen (hls.trans hml) hstk (lv_room (by omega)) hd ⟨hcs, hss⟩) hloc hkk
          · cases hc
        · cases hc
      · cases hc
    · rename_i x
      unfold mr_cv at hc
      split at hc
      · rename_i t' n' hk
        split at hc
        · rename_i as' b' r' htk
          split at hc
          · rename_i ci fs hcell
            split at hc
            · rename_i hrl
              cases hc
              obtain ⟨hrl, hci⟩ := hrl
              obtain ⟨row, k1, k2, k3, k4, k5, k6, k7, k8⟩ := mr_lk_ok hq hk
              obtain ⟨m1, m2, m3, m4, m5, m6, m7, m8, m9⟩ := mr_M_ok k1 k5 k6
              obtain ⟨pre, p1, p2, p3⟩ := mr_tk_ok _ _ _ _ _ htk
              have emx : mr_mxl t = mr_maxL row := by simp [mr_mxl, k1]
              rw [emx] at hn he
              have hM := mr_met ih k1 k5 k6 hn he D b base cs
              have hR : mr_hg row + 1 ≤ R.frames ∧ 8 + (mr_maxL row + 11) + 36 * mr_hg row ≤ R.locals := ⟨by omega, by omega⟩
              have hcr : ci = row.1 := by rw [hci]; simp [mr_own, k1]
              have h15 : row.1 < 15 := by
                have : row ∈ mr_M := List.mem_of_getElem? k1
                have h15 : mr_M.all (fun z => decide (z.1 < 15)) = true := by decide +kernel
                simpa using List.all_eq_true.mp h15 row this
              have hne : (.inl (ci, fs) : mr_c) ≠ .inl (99, []) := fun z => by injection z with z; injection z with z; omega
              have hrec : ∃ cellB : Cell, H[base + b']? = some cellB ∧ cellB.vm.isStatics = false ∧ s.vm.findClass (mr_y row).cls = some cellB.cls := by
                obtain ⟨rr, g1, cell, g2, g3, g4, g5⟩ := hw.at hcell hne
                have g6 := (hK.1.1 ci rr g1).2
                have hlt : ci < 12 := by
                  have : ci < mr_cl.length := (List.getElem?_eq_some_iff.mp g1).1
                  simpa [mr_cl] using this
                have g7 : rr = (mr_name ci, mr_T ci, mr_N ci) := Option.some.inj (g1.symm.trans (mr_cl_at hlt))
                subst g7
                refine ⟨cell, g2, by rw [g4]; rfl, ?_⟩
                rw [g3]
                have := g6.1
                rw [hcr] at this ⊢
                exact this
              have hpre : PreV s H (mr_y row).cls (base + b') (mr_Pc D b base cs (.ref b' :: as') h) (as'.map (mr_v b base)) := ⟨mr_Pc_blind, hrec, fun U hU hW => ⟨rfl, by rw [hU]; exact hw.moved hW.alike, hK.warm hW⟩⟩
              have hstk : st.map (mr_v b base) = (as'.map (mr_v b base)).reverse ++ .ref (base + b') :: rs.map (mr_v b base) := by rw [p1, p2]; simp [mr_v]
              have hlen : (as'.map (mr_v b base)).length = mr_na row := by rw [List.length_map, p2]; simp [p3, k7]
              have hsum := mr_rest_sum (b := b) (base := base) hrl
              rcases mr_tl_ok hq k2 hK with z | z
              · rw [k8] at z
                exact mr_go (va_runV (C := (mr_y row).cls) ⟨hx, hb, hml, hown, hts⟩ hM ⟨callB_of (mr_na row) hts (mr_good m1) rfl rfl rfl (hts _ m2) (hts _ z) m7 hR, hts _ (m4 (by omega)), hts _ (m5 k4)⟩ hpre rfl hlen (hls.trans hml) hstk (lv_room (by omega)) hd ⟨hcs, hss⟩) hloc hkk
              · rw [k8] at z
                exact mr_go (va_runVN (C := (mr_y row).cls) (host := "ReachLabels") ⟨hx, hb, hml, hown, hts⟩ hM ⟨va_cnB (mr_na row) hts (mr_good m1) rfl rfl rfl z (hts _ m2) m7 hR, hts _ (m4 (by omega)), hts _ (m5 k4)⟩ hpre rfl hlen (hls.trans hml) hstk (lv_room (by omega)) hd ⟨hcs, hss⟩) hloc hkk
            · cases hc
          · cases hc
        · cases hc
      · cases hc
    · cases hc
  · cases hc
end MRC
theorem mr_snd (l : Launch) : ∀ n, mr_S l n := by
  intro n
  induction n with
  | zero => intro M pc lv st h r h' he; simp [mr_ex] at he
  | succ n ih =>
    intro M pc lv st h r h' he p e R s m args below meth c H locs cells slots Q ls D b base cs q hX hq hw hl hloc hcs hss kk
    unfold mr_ex at he
    split at he
    · cases he
    · rename_i i len hf
      have hd := mr_ft_ok hq hf
      split at he
      · rename_i pc1 lv1 st1 h1 ho
        have g1 := mr_one_mono ho
        have g2 := mr_ex_mono _ _ _ _ _ _ _ _ he
        refine mr_one_snd hX hq hd ho hw hl hloc (by omega) (by omega) (by omega) (by omega) ?_
        intro H1 locs1 ls1 w1 w2 w3
        refine ih _ _ _ _ _ _ _ he p e R s m args below meth c H1 locs1 _ _ Q ls1 D b base cs q hX hq w1 w2 w3 (by omega) (by omega) ?_
        intro H2 locs2 ls2 pc2 v1 v2 v3
        exact W.cs (by omega) (by omega) (kk H2 locs2 ls2 pc2 v1 v2 v3)
      · split at he
        · rename_i t as rs hc
          split at he
          · rename_i hn
            split at he
            · rename_i v h1 hcx
              have g1 := mr_ex_mono _ _ _ _ _ _ _ _ hcx
              have g2 := mr_ex_mono _ _ _ _ _ _ _ _ he
              refine mr_cal_snd ih hX hq hd hc hn hcx hw hl.2.1 hloc (by omega) (by omega) ?_
              intro H1 locs1 w1 w3
              refine ih _ _ _ _ _ _ _ he p e R s m args below meth c H1 locs1 _ _ Q ls D b base cs q hX hq w1 hl w3 (by omega) (by omega) ?_
              intro H2 locs2 ls2 pc2 v1 v2 v3
              exact W.cs (by omega) (by omega) (kk H2 locs2 ls2 pc2 v1 v2 v3)
            · cases he
          · cases he
        · split at he
          · rename_i v hr
            cases he
            obtain ⟨e1, e2, e3⟩ := mr_rt_ok hq hd hr
            rw [e1, e3]
            exact W.cs (by omega) (by omega) (kk H locs ls pc hw hloc e2)
          · cases he
