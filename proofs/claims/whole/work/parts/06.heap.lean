/-! the instructions that read or write cells -/
theorem mr_mL_sys : mr_mL.all (fun e => decide (e.2.1 < 1000) || decide (e.2.2.1 = 0)) = true := by decide +kernel
theorem mr_tl_sys {M x t : Nat} {q : mr_R} (hq : mr_M[M]? = some q) (h : mr_tl M x = some t) (ht : 1000 ≤ t) : (Cond.methodLink (mr_name q.1) x (mr_yOf t)) ∈ mr_tt := by
  unfold mr_tl at h
  have h1m : 1 ≤ mr_hgt M := by
    by_cases z : 1 ≤ mr_hgt M
    · exact z
    · rw [if_neg z] at h
      cases h
  rw [if_pos h1m] at h
  obtain ⟨e, he, h2⟩ := Option.map_eq_some_iff.mp h
  have h3 := List.mem_of_find?_eq_some he
  have h4 := List.find?_some he
  have h5 := List.all_eq_true.mp mr_okL_all e h3
  have h6 := List.all_eq_true.mp mr_mL_sys e h3
  simp only [mr_own, hq, Bool.and_eq_true, beq_iff_eq] at h4
  cases h2
  obtain ⟨e1, e2⟩ := h4
  simp only [Bool.or_eq_true, decide_eq_true_eq] at h6
  have h7 : e.2.2.1 = 0 := by omega
  unfold mr_okL at h5
  rw [if_pos h7, e1, e2] at h5
  exact mr_tt_in (List.mem_of_getElem? (of_decide_eq_true h5)) rfl
section MRH
variable {p : Program} {l : Launch} {e : Env} {R : Room} {s : State} {m : MethodId} {args : Array Value} {below : List Frame} {meth : Method} {c : Code} {H : Heap} {locs : List Loc} {cells slots : Nat} {Q : State → Prop}
variable {cc : ByteArray} {pc : Nat} {ls : Array Slot} {rest : List Value} {D : va_G} {b base : Nat} {cs : mr_q} {h : mr_h} {q : mr_R} {M : Nat}
theorem mr_r_get (hX : mr_x p R s m args meth c D cs q) (hq : mr_M[M]? = some q) (hw : mr_w D b base cs s h H) {a x ci k : Nat} {fs : List Value} {v : Value} (ha : h.1 a = .inl (ci, fs)) (hg : mr_gl M x = some (ci, k)) (hv : fs[k]? = some v) (hd : decode (mr_bytes q) pc = .ok (.getfield x, 3))
    (kk : W p l e R s m args below meth c H locs cells slots Q (F0 m (pc + 3) ls (mr_v b base v :: rest))) : W p l e R s m args below meth c H locs cells slots Q (F0 m pc ls (.ref (base + a) :: rest)) := by
  obtain ⟨hx, hb, hml, hown, hts, hK, -⟩ := hX
  obtain ⟨h1, h2, h3⟩ := mr_gl_ok hq hg
  obtain ⟨y1, y2, y3, y4⟩ := mr_Y h1
  have hat := hw.at ha (fun z => by injection z with z; injection z with z; omega)
  have hP : va_P D mr_cl [(base + a, .inr (ci, fs.map (mr_v b base)))] H := by
    intro j z hz
    match j, hz with
    | 0, hz => cases hz; exact hat
    | j + 1, hz => simp at hz
  exact va_get (C := mr_name ci) (T := mr_T ci) (N := mr_N ci) hx hb hts y1 hown hK.1 hP 0 rfl (mr_cl_at h1) k h2 (hts _ h3) (fun z hz => by rw [y4 k h2] at hz; exact hz) (by rw [List.getElem?_map, hv]; rfl) hd kk
theorem mr_r_put (hX : mr_x p R s m args meth c D cs q) (hq : mr_M[M]? = some q) (hw : mr_w D b base cs s h H) {a x ci k : Nat} {fs : List Value} {v : Value} (ha : h.1 a = .inl (ci, fs)) (hg : mr_gl M x = some (ci, k)) (hl : k < fs.length) (hfit : mr_fit (mr_ty ci k) v = true)
    (hfin : (mr_T ci k).2.2.2 = false ∨ (mr_own M = ci ∧ mr_isI M = true)) (hd : decode (mr_bytes q) pc = .ok (.putfield x, 3))
    (kk : ∀ (H1 : Heap) (f : Nat), mr_w D b base cs s (mr_up h a (.inl (ci, fs.set k v))) H1 → W p l e R s m args below meth c H1 (locs ++ [⟨base + a, f⟩]) cells slots Q (F0 m (pc + 3) ls rest)) : W p l e R s m args below meth c H locs cells slots Q (F0 m pc ls (mr_v b base v :: .ref (base + a) :: rest)) := by
  obtain ⟨hx, hb, hml, hown, hts, hK, -, -, hinit⟩ := hX
  obtain ⟨h1, h2, h3⟩ := mr_gl_ok hq hg
  obtain ⟨y1, y2, y3, y4⟩ := mr_Y h1
  have hc := mr_cl_at h1
  have hne : h.1 a ≠ .inl (99, []) := fun z => by rw [ha] at z; injection z with z; injection z with z; omega
  obtain ⟨r, hr, cell, q1, q2, q3, q4⟩ := hw.at ha (fun z => by injection z with z; injection z with z; omega)
  have hr' : r = (mr_name ci, mr_T ci, mr_N ci) := Option.some.inj (hr.symm.trans hc)
  subst hr'
  have hap := va_apart (own := mr_name q.1) hts y1 (mr_ty ci) y2 y3 hK.1 hc
  obtain ⟨hS, hfc, kC, hkC, hkind⟩ := hK.1.1 ci _ hc
  obtain ⟨cf, kf, fi, f, hi, hsl⟩ := hS k h2
  have hlay := hts _ (y1 _ (u_in_lay h2))
  have hst := (u_facts hfc hkC (u_lays hts y1 h2) hi).1
  have hlt : f.slot < cell.slots.size := by rw [hsl]; exact k2_hasslot (q4 k h2)
  have hn : narrow (mr_ty ci k) (mr_v b base v) = mr_v b base v := by
    revert hfit
    cases mr_ty ci k <;> cases v <;> simp [mr_fit, narrow, mr_v]
  have hf : fits (mr_ty ci k) (mr_v b base v) = true := by
    revert hfit
    cases mr_ty ci k <;> cases v <;> simp [mr_fit, fits, mr_v]
  have hlink := hts _ h3
  have hsame : s.fieldFound? (mr_name ci) (mr_T ci k).2.1 (mr_T ci k).2.2.1 = some (cf, kf, fi, f) := by rw [← y4 k h2]; exact hi
  have fin : ∀ H' : Heap, H'[base + a]? = some (cell.setSlot f.slot (mr_v b base v)) → H'.size = H.size → (∀ z, z ≠ base + a → H'[z]? = H[z]?) → mr_w D b base cs s (mr_up h a (.inl (ci, fs.set k v))) H' := by
    intro H' e1 e2 e3
    refine hw.set (hw.lt hne) e2 e3 ?_
    rw [hsl] at e1
    refine ⟨_, hc, ?_⟩
    have := t_OB.to (V := updV (vp_V (fs.map (mr_v b base))) k (mr_v b base v)) (V' := vp_V ((fs.set k v).map (mr_v b base))) ⟨_, e1, q2, q3, t_set q4 hap h2 (mr_v b base v)⟩ (fun j _ => by
      rw [List.map_set]
      exact vp_updV_set (by rw [List.length_map]; exact hl) _ j)
    exact this
  unfold u_lay at hlay
  by_cases hfb : (mr_T ci k).2.2.2 = true
  · rw [if_pos hfb] at hlay
    rcases hfin with z | ⟨z1, z2⟩
    · rw [hfb] at z; cases z
    · have hin2 : meth.name = "<init>" := hinit (by simpa [mr_isI, hq] using z2)
      have hown' : mr_name ci = mr_name q.1 := by rw [← z1]; simp [mr_own, hq]
      have hcf : m.cls = cf := by
        obtain ⟨_, _, c', _, _, _, -, -, hf', -, -, -, hown2, -⟩ := Cond.laysFinal_spec hlay
        have e1 : c' = cf := by have := hi.symm.trans hf'; simp at this; exact this.1.symm
        rw [y4 k h2, hown'] at hown2
        rw [← e1]; exact Option.some.inj (hown.symm.trans hown2)
      have h6 := u_fits hfc hkC hkind (Or.inr hlay) hi (y2 k h2) hn hf
      refine W.putFinK hx hb hown hlink hsame hst hcf hin2 (by rw [q2]; exact h6) q1 q3 hlt rfl rfl hd fun H' e1 e2 e3 => ?_
      exact kk H' _ (fin H' e1 e2 e3)
  · rw [if_neg hfb] at hlay
    have h6 := u_store hfc hkC hkind hlay hi (y2 k h2) hn hf
    refine W.putK hx hb (f := f) ⟨hown, hlink, ⟨_, _, _, hsame⟩, hst⟩ (by rw [q2]; exact h6) q1 q3 hlt rfl rfl hd fun H' e1 e2 e3 => ?_
    exact kk H' _ (fin H' e1 e2 e3)
theorem mr_r_iald (hX : mr_x p R s m args meth c D cs q) (hw : mr_w D b base cs s h H) {a n : Nat} {f : Nat → Int32} {i : Int32} (ha : h.1 a = .inr (.inl (n, f))) (hi : vp_in i n) (hd : decode (mr_bytes q) pc = .ok (.iaload, 1))
    (kk : W p l e R s m args below meth c H locs cells slots Q (F0 m (pc + 1) ls (.int (f i.toNatClampNeg) :: rest))) : W p l e R s m args below meth c H locs cells slots Q (F0 m pc ls (.int i :: .ref (base + a) :: rest)) := by
  obtain ⟨hx, hb, hml, hown, hts, hK, -⟩ := hX
  have hP : va_P D mr_cl [(base + a, .inl (cs.1, n, .inl f))] H := by
    intro j z hz
    match j, hz with
    | 0, hz => cases hz; exact hw.at ha (fun z => by cases z)
    | j + 1, hz => simp at hz
  exact va_iald hx hb hK.1 hP 0 0 rfl rfl hi hd kk
theorem mr_r_zald (hX : mr_x p R s m args meth c D cs q) (hw : mr_w D b base cs s h H) {a n : Nat} {f : Nat → Int32} {i : Int32} (ha : h.1 a = .inr (.inr (.inr (.inl (n, f))))) (hi : vp_in i n) (hd : decode (mr_bytes q) pc = .ok (.baload, 1))
    (kk : W p l e R s m args below meth c H locs cells slots Q (F0 m (pc + 1) ls (.int (f i.toNatClampNeg) :: rest))) : W p l e R s m args below meth c H locs cells slots Q (F0 m pc ls (.int i :: .ref (base + a) :: rest)) := by
  obtain ⟨hx, hb, hml, hown, hts, hK, -⟩ := hX
  have hP : va_P D mr_cl [(base + a, .inl (cs.2.2.1, n, .inl f))] H := by
    intro j z hz
    match j, hz with
    | 0, hz => cases hz; exact hw.at ha (fun z => by cases z)
    | j + 1, hz => simp at hz
  exact va_zald hx hb hK.1 hP 0 2 rfl rfl hi hd kk
theorem mr_r_lald (hX : mr_x p R s m args meth c D cs q) (hw : mr_w D b base cs s h H) {a n : Nat} {f : Nat → Int64} {i : Int32} (ha : h.1 a = .inr (.inr (.inl (n, f)))) (hi : vp_in i n) (hd : decode (mr_bytes q) pc = .ok (.laload, 1))
    (kk : W p l e R s m args below meth c H locs cells slots Q (F0 m (pc + 1) ls (.long (f i.toNatClampNeg) :: rest))) : W p l e R s m args below meth c H locs cells slots Q (F0 m pc ls (.int i :: .ref (base + a) :: rest)) := by
  obtain ⟨hx, hb, hml, hown, hts, hK, -⟩ := hX
  have hP : va_P D mr_cl [(base + a, .inl (cs.2.1, n, .inr (.inl f)))] H := by
    intro j z hz
    match j, hz with
    | 0, hz => cases hz; exact hw.at ha (fun z => by cases z)
    | j + 1, hz => simp at hz
  exact va_lald hx hb hK.1 hP 0 1 rfl rfl hi hd kk
theorem mr_r_qald (hX : mr_x p R s m args meth c D cs q) (hw : mr_w D b base cs s h H) {a n k : Nat} {f : Nat → Option Nat} {i : Int32} (ha : h.1 a = .inr (.inr (.inr (.inr (n, f))))) (hi : vp_in i n) (hk : f i.toNatClampNeg = some k) (hd : decode (mr_bytes q) pc = .ok (.aaload, 1))
    (kk : W p l e R s m args below meth c H locs cells slots Q (F0 m (pc + 1) ls (.ref (base + k) :: rest))) : W p l e R s m args below meth c H locs cells slots Q (F0 m pc ls (.int i :: .ref (base + a) :: rest)) := by
  obtain ⟨hx, hb, hml, hown, hts, hK, -⟩ := hX
  have hP : va_P D mr_cl [(base + a, .inl (cs.2.2.2, n, .inr (.inr (.inr (.inr (fun j => (f j).map (fun k => base + k)))))))] H := by
    intro j z hz
    match j, hz with
    | 0, hz => cases hz; exact hw.at ha (fun z => by cases z)
    | j + 1, hz => simp at hz
  exact va_aldq (C := "ReachLabels$Net") hx hb hK.1 hP 0 3 rfl rfl hi hd (by rw [hk]; exact kk)
theorem mr_r_sld (hX : mr_x p R s m args meth c D cs q) (hw : mr_w D b base cs s h H) {i : Int32} (hi : vp_in i h.2.2.2.1) (hd : decode (mr_bytes q) pc = .ok (.iaload, 1))
    (kk : W p l e R s m args below meth c H locs cells slots Q (F0 m (pc + 1) ls (.int (h.2.2.2.2 i.toNatClampNeg) :: rest))) : W p l e R s m args below meth c H locs cells slots Q (F0 m pc ls (.int i :: .ref b :: rest)) := by
  obtain ⟨hx, hb, -⟩ := hX
  obtain ⟨scr, h1, h2, h3, h4, h5⟩ := hw.2.2.2.1
  exact W.iald hx hb h1 h2 h3 (by rw [h4]; exact hi) (h5 _ (Nat.not_le.mp fun z => hi (Or.inr z))) rfl rfl hd kk
theorem mr_r_slen (hX : mr_x p R s m args meth c D cs q) (hw : mr_w D b base cs s h H) (hd : decode (mr_bytes q) pc = .ok (.arraylength, 1))
    (kk : W p l e R s m args below meth c H locs cells slots Q (F0 m (pc + 1) ls (.int (Int32.ofNat h.2.2.2.1) :: rest))) : W p l e R s m args below meth c H locs cells slots Q (F0 m pc ls (.ref b :: rest)) := by
  obtain ⟨hx, hb, -⟩ := hX
  obtain ⟨scr, h1, h2, h3, h4, h5⟩ := hw.2.2.2.1
  exact W.alen hx hb h1 h2 (by rw [h4]) rfl rfl hd kk
theorem mr_r_iast (hX : mr_x p R s m args meth c D cs q) (hw : mr_w D b base cs s h H) {a n : Nat} {f : Nat → Int32} {i x : Int32} (ha : h.1 a = .inr (.inl (n, f))) (hi : vp_in i n) (hd : decode (mr_bytes q) pc = .ok (.iastore, 1))
    (kk : ∀ (H1 : Heap) (k : Nat), mr_w D b base cs s (mr_up h a (.inr (.inl (n, upd f i.toNatClampNeg x)))) H1 → W p l e R s m args below meth c H1 (locs ++ [⟨base + a, k⟩]) cells slots Q (F0 m (pc + 1) ls rest)) : W p l e R s m args below meth c H locs cells slots Q (F0 m pc ls (.int x :: .int i :: .ref (base + a) :: rest)) := by
  obtain ⟨hx, hb, hml, hown, hts, hK, -⟩ := hX
  have hat := hw.at ha (fun z => by cases z)
  refine W.iast hx hb hat ((hK.1.2 0 _ rfl).1 n (fun j => .int (f j))) (fun z => by cases z) (by show ¬ (i < 0 ∨ (arrV _ _ _).slots.size ≤ _); rw [arrV_size]; exact hi) rfl rfl hd fun H1 e1 z oq => ?_
  refine kk H1 _ (hw.set (hw.lt (by rw [ha]; exact fun z => by cases z)) z oq ?_)
  show H1[base + a]? = some (vp_cell _ _)
  rw [e1]
  dsimp only
  rw [vp_cell_i, vp_cell_i, arrV_store]
  congr 2
  funext j
  by_cases hj : j = i.toNatClampNeg
  · subst hj; simp [updV, upd]
  · simp [updV, upd, hj]
theorem mr_r_zast (hX : mr_x p R s m args meth c D cs q) (hw : mr_w D b base cs s h H) {a n : Nat} {f : Nat → Int32} {i x : Int32} (ha : h.1 a = .inr (.inr (.inr (.inl (n, f))))) (hi : vp_in i n) (hd : decode (mr_bytes q) pc = .ok (.bastore, 1))
    (kk : ∀ (H1 : Heap) (k : Nat), mr_w D b base cs s (mr_up h a (.inr (.inr (.inr (.inl (n, upd f i.toNatClampNeg (x &&& 1))))))) H1 → W p l e R s m args below meth c H1 (locs ++ [⟨base + a, k⟩]) cells slots Q (F0 m (pc + 1) ls rest)) : W p l e R s m args below meth c H locs cells slots Q (F0 m pc ls (.int x :: .int i :: .ref (base + a) :: rest)) := by
  obtain ⟨hx, hb, hml, hown, hts, hK, -⟩ := hX
  have hat := hw.at ha (fun z => by cases z)
  refine W.zast hx hb hat ((hK.1.2 2 _ rfl).1 n (fun j => .int (f j))) (fun z => by cases z) (by show ¬ (i < 0 ∨ (arrV _ _ _).slots.size ≤ _); rw [arrV_size]; exact hi) rfl rfl hd fun H1 e1 z oq => ?_
  refine kk H1 _ (hw.set (hw.lt (by rw [ha]; exact fun z => by cases z)) z oq ?_)
  show H1[base + a]? = some (vp_cell _ _)
  rw [e1]
  dsimp only
  rw [vp_cell_i, vp_cell_i, arrV_store]
  congr 2
  funext j
  by_cases hj : j = i.toNatClampNeg
  · subst hj; simp [updV, upd, narrow]
  · simp [updV, upd, hj]
theorem mr_r_last (hX : mr_x p R s m args meth c D cs q) (hw : mr_w D b base cs s h H) {a n : Nat} {f : Nat → Int64} {i : Int32} {x : Int64} (ha : h.1 a = .inr (.inr (.inl (n, f)))) (hi : vp_in i n) (hd : decode (mr_bytes q) pc = .ok (.lastore, 1))
    (kk : ∀ (H1 : Heap) (k : Nat), mr_w D b base cs s (mr_up h a (.inr (.inr (.inl (n, vp_updL f i.toNatClampNeg x))))) H1 → W p l e R s m args below meth c H1 (locs ++ [⟨base + a, k⟩]) cells slots Q (F0 m (pc + 1) ls rest)) : W p l e R s m args below meth c H locs cells slots Q (F0 m pc ls (.long x :: .int i :: .ref (base + a) :: rest)) := by
  obtain ⟨hx, hb, hml, hown, hts, hK, -⟩ := hX
  have hat := hw.at ha (fun z => by cases z)
  refine W.last hx hb hat ((hK.1.2 1 _ rfl).1 n (fun j => .long (f j))) (fun z => by cases z) (by show ¬ (i < 0 ∨ (arrV _ _ _).slots.size ≤ _); rw [arrV_size]; exact hi) rfl rfl hd fun H1 e1 z oq => ?_
  refine kk H1 _ (hw.set (hw.lt (by rw [ha]; exact fun z => by cases z)) z oq ?_)
  show H1[base + a]? = some (vp_cell _ _)
  rw [e1]
  dsimp only
  rw [vp_cell_l, vp_cell_l, arrV_store]
  congr 2
  funext j
  by_cases hj : j = i.toNatClampNeg
  · subst hj; simp [updV, vp_updL]
  · simp [updV, vp_updL, hj]
theorem mr_r_qast (hX : mr_x p R s m args meth c D cs q) (hw : mr_w D b base cs s h H) {a n v : Nat} {f : Nat → Option Nat} {i : Int32} {fs : List Value} (ha : h.1 a = .inr (.inr (.inr (.inr (n, f))))) (hv : h.1 v = .inl (3, fs)) (hi : vp_in i n) (hd : decode (mr_bytes q) pc = .ok (.aastore, 1))
    (kk : ∀ (H1 : Heap) (k : Nat), mr_w D b base cs s (mr_up h a (.inr (.inr (.inr (.inr (n, va_up f i.toNatClampNeg (some v))))))) H1 → W p l e R s m args below meth c H1 (locs ++ [⟨base + a, k⟩]) cells slots Q (F0 m (pc + 1) ls rest)) : W p l e R s m args below meth c H locs cells slots Q (F0 m pc ls (.ref (base + v) :: .int i :: .ref (base + a) :: rest)) := by
  obtain ⟨hx, hb, hml, hown, hts, hK, -⟩ := hX
  have hat := hw.at ha (fun z => by cases z)
  have hlt : i.toNatClampNeg < n := Nat.not_le.mp fun z => hi (Or.inr z)
  have h0 : ¬ i < 0 := fun z => hi (Or.inl z)
  obtain ⟨r', hr', cellV, g1, g2, g3, -⟩ := hw.at hv (fun z => by injection z with z; injection z with z; cases z)
  have hcls := (hK.1.1 3 _ (mr_cl_at (by decide))).2
  obtain ⟨kA, comp, k1, k2, k3, -⟩ := (hK.1.2 3 _ rfl).2
  have hcomp : comp = D.1 3 := Option.some.inj (k3.symm.trans hcls.1)
  subst hcomp
  obtain ⟨kC, hkC, -⟩ := hcls.2
  refine W.aast hx hb hat (fun z w => by cases w) (fun w => by cases w) k1 k2 rfl hkC ⟨h0, by show _ < (arrV _ _ _).slots.size; rw [arrV_size]; exact hlt⟩ g1 (fun z w => by rw [g3] at w; cases w) (by rw [g2]; exact hkC) (by rw [g2]; exact va_assign hcls) rfl rfl hd fun H1 e1 z oq => ?_
  refine kk H1 _ (hw.set (hw.lt (by rw [ha]; exact fun z => by cases z)) z oq ?_)
  show H1[base + a]? = some (vp_cell _ _)
  rw [e1]
  dsimp only
  rw [vp_cell_q, vp_cell_q, arrV_store]
  congr 2
  funext j
  by_cases hj : j = i.toNatClampNeg
  · subst hj; simp [updV, va_up, va_rf]
  · simp [updV, va_up, hj]
theorem mr_r_new (hX : mr_x p R s m args meth c D cs q) (hq : mr_M[M]? = some q) (hw : mr_w D b base cs s h H) {x ci : Nat} (hn : mr_nl M x = some ci) (hcells : cells + 1 ≤ R.cells) (hslots : slots + mr_N ci ≤ R.slots) (hd : decode (mr_bytes q) pc = .ok (.new x, 3))
    (kk : ∀ (H1 : Heap), mr_w D b base cs s (mr_add h (mr_N ci) (.inl (ci, mr_dfs ci))) H1 → W p l e R s m args below meth c H1 locs (cells + 1) (slots + mr_N ci) Q (F0 m (pc + 3) ls (.ref (base + h.2.1) :: rest))) : W p l e R s m args below meth c H locs cells slots Q (F0 m pc ls rest) := by
  obtain ⟨hx, hb, hml, hown, hts, hK, -⟩ := hX
  obtain ⟨h1, h2, h3, h4⟩ := mr_nl_ok hq hn
  obtain ⟨y1, y2, y3, y4⟩ := mr_Y h1
  have hKn := hK.1.1 ci _ (mr_cl_at h1)
  refine W.newcK hx hb hown (hts _ h2) (hts _ h3) (hts _ h4) rfl hd hcells hslots hKn.2.1 hw.1 fun H1 kC hkC e1 z1 o1 => ?_
  refine kk H1 (hw.add (by rw [z1, hw.1]) (fun z hz => o1 z (by rw [← hw.1]; exact hz)) ⟨_, mr_cl_at h1, (u_born (mr_ty ci) hts y1 hKn hkC e1 y2).to (fun j hj => ?_)⟩)
  have hj' : j < mr_N ci := hj
  have : defaultValue (mr_ty ci j) = mr_v b base (defaultValue (mr_ty ci j)) := by cases mr_ty ci j <;> rfl
  simp only [vp_V, mr_dfs, List.getD_eq_getElem?_getD, List.getElem?_map, List.getElem?_range hj', Option.map_some, Option.getD_some]
  exact this
theorem mr_r_nar (hX : mr_x p R s m args meth c D cs q) (hw : mr_w D b base cs s h H) {at_ : ArrayType} {ty : FieldType} {cA : ClassId} {n : Int32} {ce : mr_c} {a0 : vp_A} (hA : (Cond.arrayClass ty) ∈ mr_tt) (hty : newarray.typeOf at_ = ty) (hf : s.vm.findClass ("[" ++ ty.toString) = some cA) (he : mr_e b base cs ce = .inl (cA, a0)) (ha : vp_cell cA a0 = arrV cA n.toNatClampNeg (fun _ => defaultValue ty))
    (hn : ¬ n < 0) (hn2 : n.toNatClampNeg ≤ 10000) (h8 : componentBytes ty ≤ 8) (hcells : cells + 1 ≤ R.cells) (hslots : slots + n.toNatClampNeg ≤ R.slots) (hd : decode (mr_bytes q) pc = .ok (.newarray at_, 2))
    (kk : ∀ (H1 : Heap), mr_w D b base cs s (mr_add h n.toNatClampNeg ce) H1 → W p l e R s m args below meth c H1 locs (cells + 1) (slots + n.toNatClampNeg) Q (F0 m (pc + 2) ls (.ref (base + h.2.1) :: rest))) : W p l e R s m args below meth c H locs cells slots Q (F0 m pc ls (.int n :: rest)) := by
  obtain ⟨hx, hb, hml, hown, hts, hK, -⟩ := hX
  subst hty
  refine va_newaK hx hb (hts _ hA) rfl hd rfl hn rfl (Nat.le_trans (Nat.mul_le_mul hn2 h8) (by decide)) hcells hslots hw.1 fun H1 cA' e1 z1 o1 hAr hNm => ?_
  cases hf.symm.trans hNm
  refine kk H1 (hw.add (by rw [z1, hw.1]) (fun z hz => o1 z (by rw [← hw.1]; exact hz)) ?_)
  rw [he]
  show H1[base + h.2.1]? = some (vp_cell cA a0)
  rw [ha]
  exact e1
theorem mr_r_naq (hX : mr_x p R s m args meth c D cs q) (hq : mr_M[M]? = some q) (hw : mr_w D b base cs s h H) {x : Nat} {n : Int32} (hnl : mr_nl M x = some 3) (hn : ¬ n < 0) (hn2 : n.toNatClampNeg ≤ 10000) (hcells : cells + 1 ≤ R.cells) (hslots : slots + n.toNatClampNeg ≤ R.slots) (hd : decode (mr_bytes q) pc = .ok (.anewarray x, 3))
    (kk : ∀ (H1 : Heap), mr_w D b base cs s (mr_add h n.toNatClampNeg (.inr (.inr (.inr (.inr (n.toNatClampNeg, fun _ => none)))))) H1 → W p l e R s m args below meth c H1 locs (cells + 1) (slots + n.toNatClampNeg) Q (F0 m (pc + 3) ls (.ref (base + h.2.1) :: rest))) : W p l e R s m args below meth c H locs cells slots Q (F0 m pc ls (.int n :: rest)) := by
  obtain ⟨hx, hb, hml, hown, hts, hK, -⟩ := hX
  obtain ⟨h1, h2, h3, h4⟩ := mr_nl_ok hq hnl
  refine W.anew (C := "ReachLabels$Net") hx hb hown (hts _ h2) (va_AO.use hK.2.2) rfl hd rfl hn (Nat.le_trans (Nat.mul_le_mul_right 4 hn2) (by decide)) hcells hslots fun cA kA comp f1 f2 f3 f4 => ?_
  obtain ⟨kA', comp', k1, k2, k3, k4⟩ := (hK.1.2 3 _ rfl).2
  cases f1.symm.trans k4
  have hs := hw.1
  rw [hs]
  refine kk _ (hw.add (by simp) (fun z hz => by rw [Array.getElem?_push, if_neg (Nat.ne_of_lt hz)]) ?_)
  show (H.push _)[base + h.2.1]? = some (vp_cell _ _)
  rw [← hs]
  rw [Array.getElem?_push, if_pos rfl]
  rw [arrV_new]
  rfl
theorem mr_r_copy (hX : mr_x p R s m args meth c D cs q) (hq : mr_M[M]? = some q) (hw : mr_w D b base cs s h H) {x a a0 n0 n1 : Nat} {f g : Nat → Int32} {sp dp n : Int32} (hls : ls.size = c.maxLocals) (ht : mr_tl M x = some 1000) (ha0 : h.1 a0 = .inr (.inl (n0, f))) (ha1 : h.1 a = .inr (.inl (n1, g)))
    (h1 : ¬ sp < 0) (h2 : ¬ dp < 0) (h3 : ¬ n < 0) (h4 : sp.toNatClampNeg + n.toNatClampNeg ≤ n0) (h5 : dp.toNatClampNeg + n.toNatClampNeg ≤ n1) (hr : (rest.map fun v => v.category).sum ≤ 4) (h36 : 1 ≤ mr_hg q) (hnf : nativeFrameWords "java/lang/System" "arraycopy" 5 + 11 ≤ 32) (hd : decode (mr_bytes q) pc = .ok (.invokestatic x, 3))
    (kk : ∀ (H1 : Heap) (L : List Loc), (∀ z ∈ L, z.base = base + a) → mr_w D b base cs s (mr_up h a (.inr (.inl (n1, va_cpy f g sp.toNatClampNeg dp.toNatClampNeg n.toNatClampNeg)))) H1 → W p l e R s m args below meth c H1 (locs ++ L) cells slots Q (F0 m (pc + 3) ls rest)) :
    W p l e R s m args below meth c H locs cells slots Q (F0 m pc ls (.int n :: .int dp :: .ref (base + a) :: .int sp :: .ref (base + a0) :: rest)) := by
  obtain ⟨hx, hb, hml, hown, hts, hK, hfr, hlo, -⟩ := hX
  have nn : ∀ z : Int32, ¬ z < 0 → z.toInt = (z.toNatClampNeg : Int) := by
    intro z hz
    have hz0 : (0 : Int) ≤ z.toInt := by
      have := Int32.not_lt.mp hz
      simpa using Int32.le_iff_toInt_le.mp this
    show z.toInt = ((z.toInt.toNat : Nat) : Int)
    omega
  have hlink : (Cond.methodLink (mr_name q.1) x arraycopyName).before args s = true := by
    exact hts _ (mr_tl_sys hq ht (by decide))
  intro T hT X
  have hc0 : H[base + a0]? = some (vp_cell cs.1 (n0, .inl f)) := hw.at ha0 (fun z => by cases z)
  have hc1 : H[base + a]? = some (vp_cell cs.1 (n1, .inl g)) := hw.at ha1 (fun z => by cases z)
  obtain ⟨-, k0, hk0, cm0, hkk0⟩ := (hK.1.2 0 _ rfl).1 n0 (fun j => .int (f j))
  obtain ⟨-, k1, hk1, cm1, hkk1⟩ := (hK.1.2 0 _ rfl).1 n1 (fun j => .int (g j))
  obtain ⟨vm', X', step⟩ := X.arraycopy hx hown hlink (hts _ (mr_tt_in mr_w_nat rfl)) (hts _ (mr_tt_in mr_w_sac rfl)) (hts _ (mr_tt_in mr_w_sys rfl)) (src := base + a0) (dst := base + a) (cs := vp_cell cs.1 (n0, .inl f)) (cd := vp_cell cs.1 (n1, .inl g)) (srcPos := sp) (destPos := dp) (n := n) (by rw [hT]; exact hc0) (by rw [hT]; exact hc1)
    (fun _ z => by cases z) (fun _ z => by cases z) (fun z => by cases z) (fun z => by cases z) hk0 hk1 hkk0 hkk1 (by simp [refKind]) h1 h2 h3
    (by rw [nn sp h1, nn n h3]; show ¬ _ > ((arrV cs.1 n0 (fun j => .int (f j))).slots.size : Int); rw [arrV_size]; omega)
    (by rw [nn dp h2, nn n h3]; show ¬ _ > ((arrV cs.1 n1 (fun j => .int (g j))).slots.size : Int); rw [arrV_size]; omega)
    (fun vm₁ _ i hi => by
      have e : (vp_cell cs.1 (n0, .inl f)).slots.getD (sp.toNatClampNeg + i) .null = .int (f (sp.toNatClampNeg + i)) := by
        show (arrV cs.1 n0 (fun j => .int (f j))).slots.getD _ _ = _
        rw [Array.getD_eq_getD_getElem?, arrV_read _ _ (by omega)]
        rfl
      refine ⟨?_, ?_⟩
      · rw [e]
        rfl
      · rw [e]
        exact trivial)
    (g := F0 m pc ls (.int n :: .int dp :: .ref (base + a) :: .int sp :: .ref (base + a0) :: rest)) rfl (by exact hls) (rest := rest) rfl (by rw [hb]; exact hd) (by omega) (by show 2 * 0 + _ + _ ≤ _; omega)
  have e1 : copied (vp_cell cs.1 (n0, .inl f)) (vp_cell cs.1 (n1, .inl g)) sp dp n = vp_cell cs.1 (n1, .inl (va_cpy f g sp.toNatClampNeg dp.toNatClampNeg n.toNatClampNeg)) := va_copied (fun z => .int z) cs.1 cs.1 f g h4
  rw [e1] at X' step
  have hl : base + a < H.size := (Array.getElem?_eq_some_iff.mp hc1).1
  have hheap : ((T.setVm vm').setCell (base + a) (vp_cell cs.1 (n1, .inl (va_cpy f g sp.toNatClampNeg dp.toNatClampNeg n.toNatClampNeg)))).heap = H.setIfInBounds (base + a) (vp_cell cs.1 (n1, .inl (va_cpy f g sp.toNatClampNeg dp.toNatClampNeg n.toNatClampNeg))) := by rw [← hT]; rfl
  obtain ⟨t, a1, b1⟩ := kk _ _ (fun z hz => by obtain ⟨w, -, hw⟩ := List.mem_map.mp hz; rw [← hw]) (hw.set (hw.lt (by rw [ha1]; exact fun z => by cases z)) (by simp) (fun z hz => by simp [Array.getElem?_setIfInBounds, Ne.symm hz]) (show (H.setIfInBounds (base + a) _)[base + a]? = some _ by simp [Array.getElem?_setIfInBounds, hl])) _ hheap X'
  exact ⟨t, step t a1, b1⟩
end MRH
