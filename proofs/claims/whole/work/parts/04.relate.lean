/-! how the mirror's cells lie in the machine's heap -/
def mr_v (b base : Nat) : Value → Value
  | .ref k => .ref (base + k)
  | .retAddr _ => .ref b
  | v => v
theorem mr_v_cat (b base : Nat) (v : Value) : (mr_v b base v).category = v.category := by cases v <;> rfl
abbrev mr_q : Type := ClassId × ClassId × ClassId × ClassId
def mr_e (b base : Nat) (cs : mr_q) : mr_c → va_E
  | .inl (c, fs) => .inr (c, fs.map (mr_v b base))
  | .inr (.inl (n, f)) => .inl (cs.1, n, .inl f)
  | .inr (.inr (.inl (n, f))) => .inl (cs.2.1, n, .inr (.inl f))
  | .inr (.inr (.inr (.inl (n, f)))) => .inl (cs.2.2.1, n, .inl f)
  | .inr (.inr (.inr (.inr (n, f)))) => .inl (cs.2.2.2, n, .inr (.inr (.inr (.inr (fun j => (f j).map (fun k => base + k))))))
def mr_w (D : va_G) (b base : Nat) (cs : mr_q) (s : State) (h : mr_h) (H : Heap) : Prop :=
  H.size = base + h.2.1 ∧ (∀ k, k < h.2.1 → va_at D mr_cl (base + k, mr_e b base cs (h.1 k)) H) ∧ (∀ k, h.2.1 ≤ k → h.1 k = .inl (99, [])) ∧ va_X b h.2.2.2.1 h.2.2.2.2 s H ∧ b < base
def mr_tys (cs : mr_q) : List (ClassId × FieldType) := [(cs.1, .int), (cs.2.1, .long), (cs.2.2.1, .boolean), (cs.2.2.2, .object "ReachLabels$Net")]
def mr_K (D : va_G) (cs : mr_q) (U : State) : Prop :=
  va_K D mr_cl (mr_tys cs) U ∧ (∀ e ∈ mr_mL, e.2.2.1 ≠ 0 → va_Nw (.methodLinkNest (mr_name e.1.1) e.1.2 (mr_yOf e.2.1) "ReachLabels") U) ∧ va_AO "ReachLabels$Net" U
theorem mr_K.warm {D : va_G} {cs : mr_q} {s U : State} (hW : s.WarmedH U.vm) (h : mr_K D cs s) : mr_K D cs U :=
  ⟨va_K.moved hW.alike h.1, fun e he hn => va_Nw.warmM hW (h.2.1 e he hn), va_AO.moved hW.alike h.2.2⟩
theorem mr_K.same {D : va_G} {cs : mr_q} {s U : State} (hv : s.vm = U.vm) (h : mr_K D cs s) : mr_K D cs U :=
  ⟨va_K.moved (by rw [← hv]; exact Vm.Alike.refl s.vm) h.1, fun e he hn => va_Nw.same rfl hv (h.2.1 e he hn), va_AO.moved (by rw [← hv]; exact Vm.Alike.refl s.vm) h.2.2⟩
def mr_tt : List Cond := lw_tbl.filter goodWord
theorem mr_tt_in {w : Cond} (h : w ∈ lw_tbl) (g : goodWord w = true) : w ∈ mr_tt := List.mem_filter.mpr ⟨h, g⟩
theorem mr_tt_good {w : Cond} (h : w ∈ mr_tt) : (w.onTables && w.keeps) = true ∨ ∃ ty, w = .arrayClass ty := good_of_word (List.mem_filter.mp h).2
theorem mr_w.moved {D : va_G} {b base : Nat} {cs : mr_q} {s U : State} {h : mr_h} {H : Heap} (hv : s.vm.Alike U.vm) (hw : mr_w D b base cs s h H) : mr_w D b base cs U h H :=
  ⟨hw.1, hw.2.1, hw.2.2.1, hw.2.2.2.1.moved hv, hw.2.2.2.2⟩
theorem mr_w.lt {D : va_G} {b base : Nat} {cs : mr_q} {s : State} {h : mr_h} {H : Heap} (hw : mr_w D b base cs s h H) {k : Nat} (hk : h.1 k ≠ .inl (99, [])) : k < h.2.1 := Nat.not_le.mp fun hle => hk (hw.2.2.1 k hle)
theorem mr_w.at {D : va_G} {b base : Nat} {cs : mr_q} {s : State} {h : mr_h} {H : Heap} (hw : mr_w D b base cs s h H) {k : Nat} {c : mr_c} (hc : h.1 k = c) (hk : c ≠ .inl (99, [])) : va_at D mr_cl (base + k, mr_e b base cs c) H := by
  have := hw.2.1 k (hw.lt (by rw [hc]; exact hk))
  rwa [hc] at this
theorem mr_w.set {D : va_G} {b base : Nat} {cs : mr_q} {s : State} {h : mr_h} {H H1 : Heap} (hw : mr_w D b base cs s h H) {k : Nat} {c : mr_c} (hk : k < h.2.1) (z : H1.size = H.size) (o : ∀ q, q ≠ base + k → H1[q]? = H[q]?)
    (ha : va_at D mr_cl (base + k, mr_e b base cs c) H1) : mr_w D b base cs s (mr_up h k c) H1 := by
  refine ⟨z.trans hw.1, fun j hj => ?_, fun j hj => ?_, hw.2.2.2.1.kept (o b (by have := hw.2.2.2.2; omega)), hw.2.2.2.2⟩
  · by_cases e : j = k
    · subst e
      simpa [mr_up, va_up] using ha
    · have h1 := hw.2.1 j hj
      have h2 : (mr_up h k c).1 j = h.1 j := by simp [mr_up, va_up, e]
      rw [h2]
      exact h1.kept (o _ (by show base + j ≠ base + k; omega))
  · have hj' : h.2.1 ≤ j := hj
    have e : j ≠ k := by omega
    have h2 : (mr_up h k c).1 j = h.1 j := by simp [mr_up, va_up, e]
    rw [h2]
    exact hw.2.2.1 j hj'
theorem mr_w.add {D : va_G} {b base : Nat} {cs : mr_q} {s : State} {h : mr_h} {H H1 : Heap} (hw : mr_w D b base cs s h H) {n : Nat} {c : mr_c} (z : H1.size = H.size + 1) (o : ∀ q, q < H.size → H1[q]? = H[q]?)
    (ha : va_at D mr_cl (base + h.2.1, mr_e b base cs c) H1) : mr_w D b base cs s (mr_add h n c) H1 := by
  have hs := hw.1
  refine ⟨by rw [z, hs]; show _ = base + (h.2.1 + 1); omega, fun j hj => ?_, fun j hj => ?_, hw.2.2.2.1.kept (o b (by have := hw.2.2.2.2; omega)), hw.2.2.2.2⟩
  · have hj' : j < h.2.1 + 1 := hj
    by_cases e : j = h.2.1
    · subst e
      simpa [mr_add, va_up] using ha
    · have h1 := hw.2.1 j (by omega)
      have h2 : (mr_add h n c).1 j = h.1 j := by simp [mr_add, va_up, e]
      rw [h2]
      exact h1.kept (o _ (by show base + j < H.size; omega))
  · have hj' : h.2.1 + 1 ≤ j := hj
    have e : j ≠ h.2.1 := by omega
    have h2 : (mr_add h n c).1 j = h.1 j := by simp [mr_add, va_up, e]
    rw [h2]
    exact hw.2.2.1 j (by omega)
/-! locals -/
def mr_lvl (b base : Nat) (lv : List Value) : List (Nat × Value) := (lv.zipIdx.filter (fun q => decide (q.1 ≠ Value.null))).map (fun q => (q.2, mr_v b base q.1))
theorem mr_lvl_mem {b base : Nat} {lv : List Value} {i : Nat} {v : Value} (h : lv[i]? = some v) (hv : v ≠ Value.null) : (i, mr_v b base v) ∈ mr_lvl b base lv :=
  List.mem_map.mpr ⟨(v, i), List.mem_filter.mpr ⟨List.mem_zipIdx_iff_getElem?.mpr h, by simpa using hv⟩, rfl⟩
def mr_lv (b base : Nat) (lv : List Value) (ls : Array Slot) (nL : Nat) : Prop := lv.length = nL ∧ lv_has ls nL (mr_lvl b base lv)
theorem mr_lv.get {b base nL i : Nat} {lv : List Value} {ls : Array Slot} {v : Value} (h : mr_lv b base lv ls nL) (hi : lv[i]? = some v) (hv : v ≠ Value.null) : ls[i]? = some (Slot.val (mr_v b base v)) := h.2.2.2 _ (mr_lvl_mem hi hv)
theorem mr_lv.of {b base nL : Nat} {lv : List Value} {ls : Array Slot} (h1 : lv.length = nL) (h2 : ls.size = nL) (h3 : lv_wf ls) (h4 : ∀ (i : Nat) (v : Value), lv[i]? = some v → v ≠ Value.null → ls[i]? = some (Slot.val (mr_v b base v))) : mr_lv b base lv ls nL := by
  refine ⟨h1, h2, h3, fun q hq => ?_⟩
  obtain ⟨x, hx, rfl⟩ := List.mem_map.mp hq
  obtain ⟨hz, hn⟩ := List.mem_filter.mp hx
  exact h4 _ _ (List.mem_zipIdx_iff_getElem?.mp hz) (by simpa using hn)
theorem mr_lv.set1 {b base nL i : Nat} {lv lv' : List Value} {ls : Array Slot} {v : Value} (h : mr_lv b base lv ls nL) (hs : mr_set1 lv i v = some lv') {ls' : Array Slot}
    (hh : lv_has ls' nL ((i, mr_v b base v) :: (mr_lvl b base lv).filter (fun q => !(q.1 == i) && !(q.1 + 1 == i && q.2.category == 2)))) : mr_lv b base lv' ls' nL := by
  unfold mr_set1 at hs
  split at hs
  · rename_i hc
    cases hs
    refine mr_lv.of (by rw [List.length_set]; exact h.1) hh.1 hh.2.1 fun j w hj hw => ?_
    by_cases e : j = i
    · subst e
      rw [List.getElem?_set_self hc.1] at hj
      cases hj
      exact hh.2.2 _ List.mem_cons_self
    · rw [List.getElem?_set_ne (fun x => e x.symm)] at hj
      refine hh.2.2 (j, mr_v b base w) (List.mem_cons_of_mem _ (List.mem_filter.mpr ⟨mr_lvl_mem hj hw, ?_⟩))
      have hcat : ¬ (j + 1 = i ∧ w.category = 2) := by
        rintro ⟨e1, e2⟩
        rcases hc.2 with z | z
        · omega
        · rw [show i - 1 = j by omega, hj] at z
          cases w <;> simp [mr_isL, Value.category] at z e2
      simp only [mr_v_cat]
      simp
      exact ⟨e, Classical.not_and_iff_not_or_not.mp hcat⟩
  · cases hs
theorem mr_lv.set2 {b base nL i : Nat} {lv lv' : List Value} {ls : Array Slot} {v : Value} (h : mr_lv b base lv ls nL) (hs : mr_set2 lv i v = some lv') {ls' : Array Slot}
    (hh : lv_has ls' nL ((i, mr_v b base v) :: (mr_lvl b base lv).filter (fun q => !(q.1 == i) && (!(q.1 == i + 1) && !(q.1 + 1 == i && q.2.category == 2))))) : mr_lv b base lv' ls' nL := by
  unfold mr_set2 at hs
  split at hs
  · rename_i hc
    cases hs
    refine mr_lv.of (by rw [List.length_set, List.length_set]; exact h.1) hh.1 hh.2.1 fun j w hj hw => ?_
    by_cases e2 : j = i + 1
    · subst e2
      rw [List.getElem?_set_self (by rw [List.length_set]; exact hc.1)] at hj
      cases hj
      exact absurd rfl hw
    rw [List.getElem?_set_ne (fun x => e2 x.symm)] at hj
    by_cases e : j = i
    · subst e
      rw [List.getElem?_set_self (by omega)] at hj
      cases hj
      exact hh.2.2 _ List.mem_cons_self
    · rw [List.getElem?_set_ne (fun x => e x.symm)] at hj
      refine hh.2.2 (j, mr_v b base w) (List.mem_cons_of_mem _ (List.mem_filter.mpr ⟨mr_lvl_mem hj hw, ?_⟩))
      have hcat : ¬ (j + 1 = i ∧ w.category = 2) := by
        rintro ⟨e1, e3⟩
        rcases hc.2 with z | z
        · omega
        · rw [show i - 1 = j by omega, hj] at z
          cases w <;> simp [mr_isL, Value.category] at z e3
      simp only [mr_v_cat]
      simp
      exact ⟨e, e2, Classical.not_and_iff_not_or_not.mp hcat⟩
  · cases hs
theorem mr_set1_lt {lv lv' : List Value} {i : Nat} {v : Value} (h : mr_set1 lv i v = some lv') : i < lv.length := by
  unfold mr_set1 at h
  split at h
  · rename_i hc; exact hc.1
  · cases h
theorem mr_set2_lt {lv lv' : List Value} {i : Nat} {v : Value} (h : mr_set2 lv i v = some lv') : i + 1 < lv.length := by
  unfold mr_set2 at h
  split at h
  · rename_i hc; exact hc.1
  · cases h
theorem mr_sl_map (b base : Nat) (as : List Value) : (lg_sl (as.map (mr_v b base))).length = (mr_sl as).length := by
  induction as with
  | nil => rfl
  | cons v vs ih =>
    have e : lg_sl ((v :: vs).map (mr_v b base)) = (if (mr_v b base v).category = 2 then [Slot.val (mr_v b base v), .second] else [Slot.val (mr_v b base v)]) ++ lg_sl (vs.map (mr_v b base)) := by
      simp [lg_sl]
    rw [e, mr_sl, mr_v_cat]
    split <;> simp [ih] <;> omega
theorem mr_ent_at (as : List Value) (n : Nat) : ∀ (k : Nat) (i : Nat) (v : Value), (mr_sl as ++ List.replicate n .null)[i]? = some v → v ≠ Value.null → (k + i, v) ∈ lv_args k as := by
  induction as with
  | nil =>
    intro k i v h hv
    have := List.eq_of_mem_replicate (List.mem_of_getElem? (by simpa [mr_sl] using h))
    exact absurd this hv
  | cons w ws ih =>
    intro k i v h hv
    unfold mr_sl at h
    unfold lv_args
    split at h
    · rename_i hc
      rw [if_pos hc]
      match i, h with
      | 0, h => simp at h; subst h; exact List.mem_cons_self
      | 1, h => simp at h; exact absurd h.symm hv
      | i + 2, h =>
        simp only [List.cons_append, List.getElem?_cons_succ] at h
        have := ih (k + 2) i v h hv
        rw [show k + (i + 2) = k + 2 + i by omega]
        exact List.mem_cons_of_mem _ this
    · rename_i hc
      rw [if_neg hc]
      match i, h with
      | 0, h => simp at h; subst h; exact List.mem_cons_self
      | i + 1, h =>
        simp only [List.cons_append, List.getElem?_cons_succ] at h
        have := ih (k + 1) i v h hv
        rw [show k + (i + 1) = k + 1 + i by omega]
        exact List.mem_cons_of_mem _ this
theorem lv_args_map (b base : Nat) (as : List Value) : ∀ k, lv_args k (as.map (mr_v b base)) = (lv_args k as).map (fun q => (q.1, mr_v b base q.2)) := by
  induction as with
  | nil => intro k; rfl
  | cons v vs ih =>
    intro k
    simp only [List.map_cons, lv_args, mr_v_cat, ih]
theorem mr_ent_lv {b base nL : Nat} {as : List Value} (h : (mr_sl as).length ≤ nL) : mr_lv b base (mr_ent as nL) ((lg_sl (as.map (mr_v b base)) ++ List.replicate (nL - (lg_sl (as.map (mr_v b base))).length) Slot.unset).toArray) nL := by
  have h0 := lv_entry (as.map (mr_v b base)) (n := nL) (by rw [mr_sl_map]; exact h)
  refine mr_lv.of (by unfold mr_ent; simp; omega) h0.1 h0.2.1 fun i v hi hv => ?_
  have h1 := mr_ent_at as _ 0 i v hi hv
  rw [Nat.zero_add] at h1
  refine h0.2.2 (i, mr_v b base v) ?_
  rw [lv_args_map]
  exact List.mem_map.mpr ⟨(i, v), h1, rfl⟩
