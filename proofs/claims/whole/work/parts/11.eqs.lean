/-! an equation for each kind of instruction that reads or writes cells, calls, branches -/
section GX
variable {M pc x ci k : Nat} {lv st : List Value} {h : mr_h} {Q : Option Value → mr_h → Prop}
theorem gx_get {a : Nat} (hf : mr_ft M pc = some (.getfield x, 3)) (hg : mr_gl M x = some (ci, k)) : mr_wp M pc lv (.ref a :: st) h Q = mr_gf (h.1 a) ci k (fun v => mr_wp M (pc + 3) lv (v :: st) h Q) := by
  unfold mr_gf
  cases hc : h.1 a with
  | inl z =>
    obtain ⟨c', fs⟩ := z
    dsimp only
    by_cases e : c' = ci
    · rw [if_pos e]
      cases hv : fs[k]? with
      | none => exact gx_no hf (by simp [mr_one, mr_get, hc, hg, e, hv]) rfl rfl
      | some v => exact gx_one hf (by simp [mr_one, mr_get, hc, hg, e, hv])
    · rw [if_neg e]
      exact gx_no hf (by simp [mr_one, mr_get, hc, hg, e]) rfl rfl
  | inr z => exact gx_no hf (by simp [mr_one, mr_get, hc]) rfl rfl
theorem gx_put {a : Nat} {v : Value} (hf : mr_ft M pc = some (.putfield x, 3)) (hg : mr_gl M x = some (ci, k)) (hs : mr_fit (mr_ty ci k) v = true ∧ ((mr_T ci k).2.2.2 = false ∨ (mr_own M = ci ∧ mr_isI M = true))) :
    mr_wp M pc lv (v :: .ref a :: st) h Q = mr_pf (h.1 a) ci k v (fun c => mr_wp M (pc + 3) lv st (mr_up h a c) Q) := by
  unfold mr_pf
  cases hc : h.1 a with
  | inl z =>
    obtain ⟨c', fs⟩ := z
    dsimp only
    by_cases e : c' = ci ∧ k < fs.length
    · rw [if_pos e]
      refine gx_one hf ?_
      show (if 3 = 3 then mr_put M x pc lv (v :: .ref a :: st) h else none) = _
      rw [if_pos rfl]
      unfold mr_put
      simp only [hc, hg]
      rw [if_pos ⟨e.1, e.2, hs.1, hs.2⟩]
    · rw [if_neg e]
      refine gx_no hf ?_ rfl rfl
      show (if 3 = 3 then mr_put M x pc lv (v :: .ref a :: st) h else none) = _
      rw [if_pos rfl]
      unfold mr_put
      simp only [hc, hg]
      rw [if_neg (fun z => e ⟨z.1, z.2.1⟩)]
  | inr z => exact gx_no hf (by simp [mr_one, mr_put, hc]) rfl rfl
theorem gx_iald {a : Nat} {i : Int32} (hf : mr_ft M pc = some (.iaload, 1)) : mr_wp M pc lv (.int i :: .ref a :: st) h Q = mr_ai (h.1 a) i (fun v => mr_wp M (pc + 1) lv (.int v :: st) h Q) := by
  unfold mr_ai
  split
  · rename_i n f hc
    split
    · rename_i e; exact gx_no hf (by simp only [mr_one, mr_ald, hc]; rw [if_pos trivial, if_pos e]) rfl rfl
    · rename_i e; exact gx_one hf (by simp only [mr_one, mr_ald, hc]; rw [if_pos trivial, if_neg e])
  · rename_i hc
    refine gx_no hf ?_ rfl rfl
    simp only [mr_one, mr_ald]
    all_goals rw [if_pos trivial]
    all_goals split
    all_goals first | rfl | (rename_i n f hz; exact absurd hz (hc n f))
theorem gx_sald {i : Int32} (hf : mr_ft M pc = some (.iaload, 1)) : mr_wp M pc lv (.int i :: .retAddr 0 :: st) h Q = if i < 0 ∨ h.2.2.2.1 ≤ i.toNatClampNeg then False else mr_wp M (pc + 1) lv (.int (h.2.2.2.2 i.toNatClampNeg) :: st) h Q := by
  split
  · rename_i e; exact gx_no hf (by simp only [mr_one, mr_ald]; rw [if_pos trivial, if_pos e]) rfl rfl
  · rename_i e; exact gx_one hf (by simp only [mr_one, mr_ald]; rw [if_pos trivial, if_neg e])
theorem gx_lald {a : Nat} {i : Int32} (hf : mr_ft M pc = some (.laload, 1)) : mr_wp M pc lv (.int i :: .ref a :: st) h Q = mr_aj (h.1 a) i (fun v => mr_wp M (pc + 1) lv (.long v :: st) h Q) := by
  unfold mr_aj
  split
  · rename_i n f hc
    split
    · rename_i e; exact gx_no hf (by simp only [mr_one, mr_lld, hc]; rw [if_pos trivial, if_pos e]) rfl rfl
    · rename_i e; exact gx_one hf (by simp only [mr_one, mr_lld, hc]; rw [if_pos trivial, if_neg e])
  · rename_i hc
    refine gx_no hf ?_ rfl rfl
    simp only [mr_one, mr_lld]
    all_goals rw [if_pos trivial]
    all_goals split
    all_goals first | rfl | (rename_i n f hz; exact absurd hz (hc n f))
theorem gx_zald {a : Nat} {i : Int32} (hf : mr_ft M pc = some (.baload, 1)) : mr_wp M pc lv (.int i :: .ref a :: st) h Q = mr_az (h.1 a) i (fun v => mr_wp M (pc + 1) lv (.int v :: st) h Q) := by
  unfold mr_az
  split
  · rename_i n f hc
    split
    · rename_i e; exact gx_no hf (by simp only [mr_one, mr_zld, hc]; rw [if_pos trivial, if_pos e]) rfl rfl
    · rename_i e; exact gx_one hf (by simp only [mr_one, mr_zld, hc]; rw [if_pos trivial, if_neg e])
  · rename_i hc
    refine gx_no hf ?_ rfl rfl
    simp only [mr_one, mr_zld]
    all_goals rw [if_pos trivial]
    all_goals split
    all_goals first | rfl | (rename_i n f hz; exact absurd hz (hc n f))
theorem gx_qald {a : Nat} {i : Int32} (hf : mr_ft M pc = some (.aaload, 1)) : mr_wp M pc lv (.int i :: .ref a :: st) h Q = mr_aq (h.1 a) i (fun v => mr_wp M (pc + 1) lv (.ref v :: st) h Q) := by
  unfold mr_aq
  split
  · rename_i n f hc
    split
    · rename_i e; exact gx_no hf (by simp only [mr_one, mr_qld, hc]; rw [if_pos trivial, if_pos e]) rfl rfl
    · rename_i e
      split
      · rename_i k hk; exact gx_one hf (by simp only [mr_one, mr_qld, hc]; rw [if_pos trivial, if_neg e, hk]; rfl)
      · rename_i hk; exact gx_no hf (by simp only [mr_one, mr_qld, hc]; rw [if_pos trivial, if_neg e, hk]; rfl) rfl rfl
  · rename_i hc
    refine gx_no hf ?_ rfl rfl
    simp only [mr_one, mr_qld]
    all_goals rw [if_pos trivial]
    all_goals split
    all_goals first | rfl | (rename_i n f hz; exact absurd hz (hc n f))
theorem gx_iast {a : Nat} {i v : Int32} (hf : mr_ft M pc = some (.iastore, 1)) : mr_wp M pc lv (.int v :: .int i :: .ref a :: st) h Q = mr_si (h.1 a) i v (fun c => mr_wp M (pc + 1) lv st (mr_up h a c) Q) := by
  unfold mr_si
  split
  · rename_i n f hc
    split
    · rename_i e; exact gx_no hf (by simp only [mr_one, mr_ast, hc]; rw [if_pos trivial, if_pos e]) rfl rfl
    · rename_i e; exact gx_one hf (by simp only [mr_one, mr_ast, hc]; rw [if_pos trivial, if_neg e])
  · rename_i hc
    refine gx_no hf ?_ rfl rfl
    simp only [mr_one, mr_ast]
    all_goals rw [if_pos trivial]
    all_goals split
    all_goals first | rfl | (rename_i n f hz; exact absurd hz (hc n f))
theorem gx_last {a : Nat} {i : Int32} {v : Int64} (hf : mr_ft M pc = some (.lastore, 1)) : mr_wp M pc lv (.long v :: .int i :: .ref a :: st) h Q = mr_sj (h.1 a) i v (fun c => mr_wp M (pc + 1) lv st (mr_up h a c) Q) := by
  unfold mr_sj
  split
  · rename_i n f hc
    split
    · rename_i e; exact gx_no hf (by simp only [mr_one, mr_lst, hc]; rw [if_pos trivial, if_pos e]) rfl rfl
    · rename_i e; exact gx_one hf (by simp only [mr_one, mr_lst, hc]; rw [if_pos trivial, if_neg e])
  · rename_i hc
    refine gx_no hf ?_ rfl rfl
    simp only [mr_one, mr_lst]
    all_goals rw [if_pos trivial]
    all_goals split
    all_goals first | rfl | (rename_i n f hz; exact absurd hz (hc n f))
theorem gx_zast {a : Nat} {i v : Int32} (hf : mr_ft M pc = some (.bastore, 1)) : mr_wp M pc lv (.int v :: .int i :: .ref a :: st) h Q = mr_sz (h.1 a) i v (fun c => mr_wp M (pc + 1) lv st (mr_up h a c) Q) := by
  unfold mr_sz
  split
  · rename_i n f hc
    split
    · rename_i e; exact gx_no hf (by simp only [mr_one, mr_zst, hc]; rw [if_pos trivial, if_pos e]) rfl rfl
    · rename_i e; exact gx_one hf (by simp only [mr_one, mr_zst, hc]; rw [if_pos trivial, if_neg e])
  · rename_i hc
    refine gx_no hf ?_ rfl rfl
    simp only [mr_one, mr_zst]
    all_goals rw [if_pos trivial]
    all_goals split
    all_goals first | rfl | (rename_i n f hz; exact absurd hz (hc n f))
theorem gx_qast {a v : Nat} {i : Int32} (hf : mr_ft M pc = some (.aastore, 1)) : mr_wp M pc lv (.ref v :: .int i :: .ref a :: st) h Q = mr_sq (h.1 a) (h.1 v) i v (fun c => mr_wp M (pc + 1) lv st (mr_up h a c) Q) := by
  unfold mr_sq
  split
  · rename_i n f fs hc hv
    split
    · rename_i e; exact gx_no hf (by simp only [mr_one, mr_qst, hc, hv]; rw [if_pos trivial, if_pos e]) rfl rfl
    · rename_i e; exact gx_one hf (by simp only [mr_one, mr_qst, hc, hv]; rw [if_pos trivial, if_neg e])
  · rename_i hc
    refine gx_no hf ?_ rfl rfl
    simp only [mr_one, mr_qst]
    all_goals rw [if_pos trivial]
    all_goals split
    all_goals first | rfl | (rename_i n f fs hz hz2; exact absurd hz2 (hc n f fs hz))
/-- a virtual call -/
theorem gx_virt {t n b : Nat} {as rs : List Value} (hf : mr_ft M pc = some (.invokevirtual x, 3)) (hk : mr_lk M x 1 = some (t, n)) (ht : mr_tk n st [] = some (as, .ref b :: rs)) (hr : rs.length ≤ 4 ∨ (rs.map fun v => v.category).sum ≤ 8) (hn : (mr_sl (.ref b :: as)).length ≤ mr_mxl t) (ho : mr_own t = ci) :
    mr_wp M pc lv st h Q = mr_rc (h.1 b) ci (mr_run t (.ref b :: as) h (fun v h' => mr_wp M (pc + 3) lv (v.toList ++ rs) h' Q)) := by
  subst ho
  unfold mr_rc
  cases hc : h.1 b with
  | inl z =>
    obtain ⟨c', fs⟩ := z
    dsimp only
    by_cases e : c' = mr_own t
    · rw [if_pos e]
      refine gx_call hf rfl ?_ hn
      show (if 3 = 3 then mr_cv M x st h else none) = _
      rw [if_pos rfl]
      unfold mr_cv
      rw [hk]
      dsimp only
      rw [ht]
      dsimp only
      rw [hc]
      dsimp only
      rw [if_pos ⟨hr, e⟩]
    · rw [if_neg e]
      refine gx_no hf rfl ?_ rfl
      show (if 3 = 3 then mr_cv M x st h else none) = _
      rw [if_pos rfl]
      unfold mr_cv
      rw [hk]
      dsimp only
      rw [ht]
      dsimp only
      rw [hc]
      dsimp only
      rw [if_neg (fun z => e z.2)]
  | inr z =>
    refine gx_no hf rfl ?_ rfl
    show (if 3 = 3 then mr_cv M x st h else none) = _
    rw [if_pos rfl]
    unfold mr_cv
    rw [hk]
    dsimp only
    rw [ht]
    dsimp only
    rw [hc]
theorem gx_copy {a b : Nat} {sp dp n : Int32} (hf : mr_ft M pc = some (.invokestatic x, 3)) (hk : mr_tl M x = some 1000) (hl : mr_lk M x 0 = none) (hr : st.length ≤ 2) :
    mr_wp M pc lv (.int n :: .int dp :: .ref a :: .int sp :: .ref b :: st) h Q = mr_cpy (h.1 a) (h.1 b) a b sp dp n (fun c => mr_wp M (pc + 3) lv st (mr_up h a c) Q) := by
  have hcn : ∀ s0, mr_cal M (.invokestatic x) 3 s0 h = none := by
    intro s0
    show (if 3 = 3 then mr_cs M x s0 else none) = _
    rw [if_pos rfl]
    unfold mr_cs
    rw [hl]
  unfold mr_cpy
  split
  · rename_i n0 f n1 g hb ha
    split
    · rename_i e
      refine gx_one hf ?_
      show (if 3 = 3 then mr_sta3 M x pc lv _ h else none) = _
      rw [if_pos rfl]
      simp only [mr_sta3, hk, hb, ha]
      rw [if_pos ⟨e.1, e.2.1, e.2.2.1, e.2.2.2.1, e.2.2.2.2.1, e.2.2.2.2.2, hr⟩]
    · rename_i e
      refine gx_no hf ?_ (hcn _) rfl
      show (if 3 = 3 then mr_sta3 M x pc lv _ h else none) = _
      rw [if_pos rfl]
      simp only [mr_sta3, hk, hb, ha]
      rw [if_neg (fun z => e ⟨z.1, z.2.1, z.2.2.1, z.2.2.2.1, z.2.2.2.2.1, z.2.2.2.2.2.1⟩)]
  · rename_i hc
    refine gx_no hf ?_ (hcn _) rfl
    show (if 3 = 3 then mr_sta3 M x pc lv _ h else none) = _
    rw [if_pos rfl]
    simp only [mr_sta3, hk]
    all_goals split
    all_goals first | rfl | (rename_i n0 f n1 g hb ha; exact absurd ha (hc n0 f n1 g hb))
end GX
/-! cells under the conditions -/
def mr_sel (o : Option Value) (K : Value → Prop) : Prop := match o with
  | some v => K v
  | none => False
theorem mr_sel_some (v : Value) (K : Value → Prop) : mr_sel (some v) K = K v := rfl
theorem mr_gf_O {c k : Nat} {fs : List Value} {K : Value → Prop} : mr_gf (mr_O c fs) c k K = mr_sel fs[k]? K := by
  show (if c = c then _ else False) = _
  rw [if_pos rfl]
  cases fs[k]? <;> rfl
theorem mr_pf_O {c k : Nat} {fs : List Value} {v : Value} {K : mr_c → Prop} (hk : k < fs.length) : mr_pf (mr_O c fs) c k v K = K (mr_O c (fs.set k v)) := by
  show (if c = c ∧ k < fs.length then _ else False) = _
  rw [if_pos ⟨rfl, hk⟩]
  rfl
theorem mr_rc_O {c : Nat} {fs : List Value} {K : Prop} : mr_rc (mr_O c fs) c K = K := by
  show (if c = c then K else False) = _
  rw [if_pos rfl]
theorem mr_ai_I {n : Nat} {f : Nat → Int32} {i : Int32} {K : Int32 → Prop} (hi : vp_in i n) : mr_ai (mr_I n f) i K = K (f i.toNatClampNeg) := by
  show (if i < 0 ∨ n ≤ i.toNatClampNeg then False else K (f i.toNatClampNeg)) = _
  rw [if_neg hi]
theorem mr_aj_J {n : Nat} {f : Nat → Int64} {i : Int32} {K : Int64 → Prop} (hi : vp_in i n) : mr_aj (mr_J n f) i K = K (f i.toNatClampNeg) := by
  show (if i < 0 ∨ n ≤ i.toNatClampNeg then False else K (f i.toNatClampNeg)) = _
  rw [if_neg hi]
theorem mr_az_Z {n : Nat} {f : Nat → Int32} {i : Int32} {K : Int32 → Prop} (hi : vp_in i n) : mr_az (mr_Z n f) i K = K (f i.toNatClampNeg) := by
  show (if i < 0 ∨ n ≤ i.toNatClampNeg then False else K (f i.toNatClampNeg)) = _
  rw [if_neg hi]
theorem mr_aq_A {n k : Nat} {f : Nat → Option Nat} {i : Int32} {K : Nat → Prop} (hi : vp_in i n) (hk : f i.toNatClampNeg = some k) : mr_aq (mr_A n f) i K = K k := by
  show (if i < 0 ∨ n ≤ i.toNatClampNeg then False else match f i.toNatClampNeg with
    | some k => K k
    | none => False) = _
  rw [if_neg hi, hk]
theorem mr_si_I {n : Nat} {f : Nat → Int32} {i x : Int32} {K : mr_c → Prop} (hi : vp_in i n) : mr_si (mr_I n f) i x K = K (mr_I n (upd f i.toNatClampNeg x)) := by
  show (if i < 0 ∨ n ≤ i.toNatClampNeg then False else _) = _
  rw [if_neg hi]
  rfl
theorem mr_sj_J {n : Nat} {f : Nat → Int64} {i : Int32} {x : Int64} {K : mr_c → Prop} (hi : vp_in i n) : mr_sj (mr_J n f) i x K = K (mr_J n (vp_updL f i.toNatClampNeg x)) := by
  show (if i < 0 ∨ n ≤ i.toNatClampNeg then False else _) = _
  rw [if_neg hi]
  rfl
theorem mr_sz_Z {n : Nat} {f : Nat → Int32} {i x : Int32} {K : mr_c → Prop} (hi : vp_in i n) : mr_sz (mr_Z n f) i x K = K (mr_Z n (upd f i.toNatClampNeg (x &&& 1))) := by
  show (if i < 0 ∨ n ≤ i.toNatClampNeg then False else _) = _
  rw [if_neg hi]
  rfl
theorem mr_sq_A {n v : Nat} {f : Nat → Option Nat} {fs : List Value} {i : Int32} {K : mr_c → Prop} (hi : vp_in i n) : mr_sq (mr_A n f) (mr_O 3 fs) i v K = K (mr_A n (va_up f i.toNatClampNeg (some v))) := by
  show (if i < 0 ∨ n ≤ i.toNatClampNeg then False else _) = _
  rw [if_neg hi]
  rfl
theorem mr_cpy_I {a b n0 n1 : Nat} {f g : Nat → Int32} {sp dp n : Int32} {K : mr_c → Prop} (h0 : ¬ a = b) (h1 : ¬ sp < 0) (h2 : ¬ dp < 0) (h3 : ¬ n < 0) (h4 : sp.toNatClampNeg + n.toNatClampNeg ≤ n0) (h5 : dp.toNatClampNeg + n.toNatClampNeg ≤ n1) :
    mr_cpy (mr_I n1 g) (mr_I n0 f) a b sp dp n K = K (mr_I n1 (va_cpy f g sp.toNatClampNeg dp.toNatClampNeg n.toNatClampNeg)) := by
  show (if _ then _ else False) = _
  rw [if_pos ⟨h0, h1, h2, h3, h4, h5⟩]
  rfl
theorem mr_up_at (h : mr_h) (a b : Nat) (c : mr_c) : (mr_up h a c).1 b = if b = a then c else h.1 b := rfl
theorem mr_up_2 (h : mr_h) (a : Nat) (c : mr_c) : (mr_up h a c).2 = h.2 := rfl
theorem mr_up_up (h : mr_h) (a : Nat) (c d : mr_c) : mr_up (mr_up h a c) a d = mr_up h a d := by
  unfold mr_up
  refine Prod.ext (funext fun j => ?_) rfl
  by_cases e : j = a <;> simp [va_up, e]
theorem mr_up_self (h : mr_h) (a : Nat) : mr_up h a (h.1 a) = h := by
  unfold mr_up
  refine Prod.ext (funext fun j => ?_) rfl
  by_cases e : j = a <;> simp [va_up, e]
theorem mr_up_comm (h : mr_h) {a b : Nat} (c d : mr_c) (e : a ≠ b) : mr_up (mr_up h a c) b d = mr_up (mr_up h b d) a c := by
  unfold mr_up
  refine Prod.ext (funext fun j => ?_) rfl
  by_cases e1 : j = a
  · subst e1; simp [va_up, e]
  · by_cases e2 : j = b
    · subst e2; simp [va_up, Ne.symm e]
    · simp [va_up, e1, e2]
theorem mr_sta3_no {M x t pc : Nat} {lv st : List Value} {h : mr_h} (hk : mr_tl M x = some t) (ht : t < 1000) : mr_sta3 M x pc lv st h = none := by
  unfold mr_sta3
  split
  · rename_i e; rw [hk] at e; cases e; omega
  · rename_i e; rw [hk] at e; cases e; omega
  · rename_i e; rw [hk] at e; cases e; omega
  · rfl
theorem gx_stat {M pc x t t' n : Nat} {lv st as rs : List Value} {h : mr_h} {Q : Option Value → mr_h → Prop} (hf : mr_ft M pc = some (.invokestatic x, 3)) (hk : mr_tl M x = some t) (ht : t < 1000) (hl : mr_lk M x 0 = some (t', n)) (htk : mr_tk n st [] = some (as, rs)) (hr : rs.length ≤ 4 ∨ (rs.map fun v => v.category).sum ≤ 8) (hn : (mr_sl as).length ≤ mr_mxl t') :
    mr_wp M pc lv st h Q = mr_run t' as h (fun v h' => mr_wp M (pc + 3) lv (v.toList ++ rs) h' Q) := by
  refine gx_call hf ?_ ?_ hn
  · show (if 3 = 3 then mr_sta3 M x pc lv st h else none) = none
    rw [if_pos rfl]
    exact mr_sta3_no hk ht
  · show (if 3 = 3 then mr_cs M x st else none) = _
    rw [if_pos rfl]
    unfold mr_cs
    rw [hl]
    dsimp only
    rw [htk]
    dsimp only
    rw [if_pos hr]
theorem gx_max {M pc x : Nat} {lv st : List Value} {h : mr_h} {Q : Option Value → mr_h → Prop} {a b : Int32} (hf : mr_ft M pc = some (.invokestatic x, 3)) (hk : mr_tl M x = some 1002) (hr : st.length ≤ 4) :
    mr_wp M pc lv (.int b :: .int a :: st) h Q = mr_wp M (pc + 3) lv (.int (if a < b then b else a) :: st) h Q := by
  refine gx_one hf ?_
  show (if 3 = 3 then mr_sta3 M x pc lv _ h else none) = _
  rw [if_pos rfl]
  simp only [mr_sta3, hk]
  rw [if_pos hr]
theorem gx_min {M pc x : Nat} {lv st : List Value} {h : mr_h} {Q : Option Value → mr_h → Prop} {a b : Int32} (hf : mr_ft M pc = some (.invokestatic x, 3)) (hk : mr_tl M x = some 1003) (hr : st.length ≤ 4) :
    mr_wp M pc lv (.int b :: .int a :: st) h Q = mr_wp M (pc + 3) lv (.int (if b < a then b else a) :: st) h Q := by
  refine gx_one hf ?_
  show (if 3 = 3 then mr_sta3 M x pc lv _ h else none) = _
  rw [if_pos rfl]
  simp only [mr_sta3, hk]
  rw [if_pos hr]
theorem gx_ini {M pc x t n o : Nat} {lv st as rs : List Value} {h : mr_h} {Q : Option Value → mr_h → Prop} (hf : mr_ft M pc = some (.invokespecial x, 3)) (hk : mr_tl M x = some t) (ht : t < 1000) (hl : mr_lk M x 2 = some (t, n)) (htk : mr_tk n st [] = some (as, .ref o :: rs)) (hr : rs.length ≤ 4 ∨ (rs.map fun v => v.category).sum ≤ 8) (hn : (mr_sl (.ref o :: as)).length ≤ mr_mxl t) :
    mr_wp M pc lv st h Q = mr_run t (.ref o :: as) h (fun v h' => mr_wp M (pc + 3) lv (v.toList ++ rs) h' Q) := by
  refine gx_call hf ?_ ?_ hn
  · show (if 3 = 3 then mr_spe M x pc lv st h else none) = none
    rw [if_pos rfl]
    unfold mr_spe
    split
    · rename_i e; rw [hk] at e; cases e; omega
    · rfl
  · show (if 3 = 3 then mr_ci M x st else none) = _
    rw [if_pos rfl]
    unfold mr_ci
    rw [hl]
    dsimp only
    rw [htk]
    dsimp only
    rw [if_pos hr]
/-- a switch over 0, 1 .. -/
theorem gx_tab {M pc len : Nat} {d lo hi : Int} {offs : Array Int} {lv st : List Value} {h : mr_h} {Q : Option Value → mr_h → Prop} {x : Int32} {t : Nat} (hf : mr_ft M pc = some (.tableswitch d lo hi offs, len)) (ho : mr_one M (.tableswitch d lo hi offs) len pc lv (.int x :: st) h = some (t, lv, st, h)) :
    mr_wp M pc lv (.int x :: st) h Q = mr_wp M t lv st h Q := gx_one hf ho
theorem mr_swd {x : Int32} {lo hi : Int} (h : ∀ j : Int, lo ≤ j → j ≤ hi → ¬ x = Int32.ofInt j) : x.toInt < lo ∨ hi < x.toInt := by
  by_cases h1 : x.toInt < lo
  · exact Or.inl h1
  · by_cases h2 : hi < x.toInt
    · exact Or.inr h2
    · exact absurd (Int32.ofInt_toInt x).symm (h x.toInt (by omega) (by omega))
theorem gx_ldc {M pc x : Nat} {lv st : List Value} {h : mr_h} {Q : Option Value → mr_h → Prop} {v : Int32} (hf : mr_ft M pc = some (.ldc_w x, 3)) (hk : mr_ik M x = some v) : mr_wp M pc lv st h Q = mr_wp M (pc + 3) lv (.int v :: st) h Q :=
  gx_one hf (by simp only [mr_one, hk]; rfl)
theorem gx_ldc2 {M pc x : Nat} {lv st : List Value} {h : mr_h} {Q : Option Value → mr_h → Prop} {v : Int64} (hf : mr_ft M pc = some (.ldc2_w x, 3)) (hk : mr_jk M x = some v) : mr_wp M pc lv st h Q = mr_wp M (pc + 3) lv (.long v :: st) h Q :=
  gx_one hf (by simp only [mr_one, hk]; rfl)
theorem gx_new {M pc x ci : Nat} {lv st : List Value} {h : mr_h} {Q : Option Value → mr_h → Prop} (hf : mr_ft M pc = some (.new x, 3)) (hk : mr_nl M x = some ci) : mr_wp M pc lv st h Q = mr_wp M (pc + 3) lv (.ref h.2.1 :: st) (mr_add h (mr_N ci) (mr_O ci (mr_dfs ci))) Q :=
  gx_one hf (by simp only [mr_one, mr_new, hk]; rfl)
