/-! the joint state of the class and of the reference -/
def RLO : mr_c := mr_O 10 [.ref 1, .ref 4, .ref 7, .ref 9, .ref 18, .ref 20, .ref 22, .ref 24, .ref 28, .ref 33, .ref 65]
def isI (c : mr_c) (n : Nat) : Prop := ∃ A : Nat → Int32, c = mr_I n A
/-- cells whose shape alone matters -/
def SLs : List Nat := [0, 4, 5, 6, 17, 18, 19, 20, 21, 22, 23, 24, 25, 26, 27, 32, 65, 66, 76, 78, 85, 86, 87, 88, 89]
def shp (k : Nat) (c : mr_c) : Prop :=
  if k = 0 then c = RLO else if k = 4 then ∃ x, c = mr_O 3 [.int x, .ref 5, .ref 6] else if k = 18 then c = mr_O 5 [.ref 19] else if k = 20 then c = mr_O 9 [.ref 21] else if k = 22 then c = mr_O 2 [.ref 23]
  else if k = 24 then ∃ (u l : Int64) (e : Int32), c = mr_O 1 [.long u, .long l, .ref 25, .ref 26, .ref 27, .int e] else if k = 25 then isI c 9 else if k = 26 then isI c 9 else if k = 27 then ∃ A, c = mr_J 10 A
  else if k = 65 then c = mr_O 0 [.ref 66, .ref 67] else if k = 66 then c = mr_A 2 (fun i => if i = 0 then some 68 else if i = 1 then some 71 else none) else if k = 76 then isI c 24 else if k = 78 then isI c 24 else if k = 89 then isI c 144 else isI c 12
def gS (h : mr_h) : Prop := ∀ k, k ∈ SLs → shp k (h.1 k)
theorem gS_fr {h h2 : mr_h} {L : List Nat} (g : gS h) (f : mr_fr h h2 L) (hc : ∀ k, k ∈ L → k ∈ SLs → shp k (h2.1 k)) : gS h2 := fun k hk => by
  by_cases e : k ∈ L
  · exact hc k e hk
  · rw [f.2 k e]
    exact g k hk
theorem gS_off {h h2 : mr_h} {L : List Nat} (g : gS h) (f : mr_fr h h2 L) (hd : ∀ k ∈ L, k ∉ SLs) : gS h2 := gS_fr g f (fun k h1 h2 => absurd h2 (hd k h1))
theorem gS_0 {h : mr_h} (g : gS h) : h.1 0 = RLO := by have := g 0 (by decide); simpa [shp] using this
theorem gS_85 {h : mr_h} (g : gS h) : ∃ A, h.1 85 = mr_I 12 A := by have := g 85 (by decide); simpa [shp, isI] using this
theorem gS_86 {h : mr_h} (g : gS h) : ∃ A, h.1 86 = mr_I 12 A := by have := g 86 (by decide); simpa [shp, isI] using this
theorem gS_78 {h : mr_h} (g : gS h) : ∃ A, h.1 78 = mr_I 24 A := by have := g 78 (by decide); simpa [shp, isI] using this
/-- ranks are small -/
def rkok (K : Nat → Int32) (n : Nat) : Prop := ∀ u, u < n → ∃ j, j < 12 ∧ K u = nI j
/-- no edge leads to its own node -/
def noself (E : Nat → Int32) (n : Nat) : Prop := ∀ u, u < n → bt (E u) u = false
def rks (E K : Nat → Int32) (n : Nat) : Prop := rkok K n ∧ noself E n
def SC (len : Nat) (a b c d e : Int32) : mr_c := mr_O 7 [.int (nI len), .ref 8, .int a, .int b, .int c, .int d, .int e]
def gT (h : mr_h) (len : Nat) : Prop := len ≤ 120 ∧ (∃ a b c d e, h.1 7 = SC len a b c d e) ∧ ∃ T T2 : Nat → Int32, h.1 8 = mr_I 120 T ∧ h.1 75 = mr_I 120 T2 ∧ ∀ j, j < len → T j = T2 j ∧ ¬ T j < 0 ∧ ¬ (255 : Int32) < T j
def gV (h : mr_h) (n m : Nat) : Prop := m ≤ 6 ∧ (∃ x, h.1 28 = mr_O 8 [.int (nI m), .ref 29, .ref 30, .ref 31, .ref 32, .int x]) ∧ ∃ a b c a2 b2 c2 : Nat → Int32, h.1 29 = mr_I 6 a ∧ h.1 30 = mr_I 6 b ∧ h.1 31 = mr_I 6 c ∧ h.1 82 = mr_I 6 a2 ∧ h.1 83 = mr_I 6 b2 ∧ h.1 84 = mr_I 6 c2 ∧
  ∀ j, j < m → a j = a2 j ∧ b j = b2 j ∧ c j = c2 j ∧ (∃ u, u < n ∧ a j = nI u) ∧ (∃ v, v < n ∧ b j = nI v) ∧ (c j = 0 ∨ c j = 1)
/-- a Net at a that is kept, and its copy in an array at place o -/
def nk (h : mr_h) (a n : Nat) (D : Nat → Int32) (o : Nat) : Prop := h.1 a = NE a n ∧ ∃ E K, h.1 (a + 1) = mr_I 12 E ∧ h.1 (a + 2) = mr_I 12 K ∧ nt E n ∧ rks E K n ∧ (∀ u, u < n → D (o + u) = E u ∧ D (o + 12 + u) = K u)
def nshp (h : mr_h) (a : Nat) : Prop := ∃ x E K, h.1 a = mr_O 3 [.int x, .ref (a + 1), .ref (a + 2)] ∧ h.1 (a + 1) = mr_I 12 E ∧ h.1 (a + 2) = mr_I 12 K
def gP (h : mr_h) (n us : Nat) : Prop := us ≤ 10 ∧ h.1 33 = mr_O 4 [.int (nI us), .ref 34] ∧ ∃ (P : Nat → Nat) (F : Nat → Option Nat) (D : Nat → Int32), h.1 34 = mr_A 10 F ∧ (∀ i, i < 10 → F i = some (35 + 3 * P i) ∧ P i < 10) ∧ (∀ i j, i < 10 → j < 10 → P i = P j → i = j) ∧ h.1 81 = mr_I 240 D ∧
  (∀ i, i < 10 → nshp h (35 + 3 * i)) ∧ ∀ i, i < us → nk h (35 + 3 * P i) n D (24 * i)
def gA (h : mr_h) (n : Nat) : Prop := ∃ (Z Z2 : Nat → Int32) (D : Nat → Int32), h.1 67 = mr_Z 2 Z ∧ h.1 80 = mr_Z 2 Z2 ∧ h.1 79 = mr_I 48 D ∧ ∀ i, i < 2 → Z i = Z2 i ∧ (Z i = 0 ∨ Z i = 1) ∧ nshp h (68 + 3 * i) ∧ (Z i = 1 → nk h (68 + 3 * i) n D (24 * i))
def gN (h : mr_h) (E K : Nat → Int32) (n : Nat) : Prop := nt E n ∧ 1 ≤ n ∧ rks E K n ∧ h.1 1 = NE 1 n ∧ h.1 2 = mr_I 12 E ∧ h.1 3 = mr_I 12 K ∧ DV h E K n ∧ ∃ S, h.1 77 = mr_I 24 S ∧ ∀ u, u < n → S u = E u ∧ S (12 + u) = K u
def gM (h : mr_h) (len n us m : Nat) : Prop := ∃ th tt tk pl va fa dn dr uf, h.1 74 = MO th (nI len) tt tk pl va fa (nI n) dn dr (nI us) (nI m) uf
def Inv (h : mr_h) : Prop := ∃ (n len us m : Nat) (E K : Nat → Int32), gS h ∧ gN h E K n ∧ gT h len ∧ gV h n m ∧ gP h n us ∧ gA h n ∧ gM h len n us m
theorem gM_MN {h : mr_h} {len n us m : Nat} (g : gM h len n us m) : MN h n := by
  obtain ⟨th, tt, tk, pl, va, fa, dn, dr, uf, e⟩ := g
  exact ⟨_, _, _, _, _, _, _, _, _, _, _, _, e⟩
theorem gM_fr {h h2 : mr_h} {L : List Nat} {len n us m : Nat} (g : gM h len n us m) (f : mr_fr h h2 L) (hL : 74 ∉ L) : gM h2 len n us m := by
  obtain ⟨th, tt, tk, pl, va, fa, dn, dr, uf, e⟩ := g
  exact ⟨_, _, _, _, _, _, _, _, _, fr_at f hL e⟩
theorem gT_fr {h h2 : mr_h} {L : List Nat} {len : Nat} (g : gT h len) (f : mr_fr h h2 L) (hL : ∀ a ∈ [7, 8, 75], a ∉ L) : gT h2 len := by
  obtain ⟨h0, ⟨a, b, c, d, e, h1⟩, T, T2, e8, e75, h3⟩ := g
  exact ⟨h0, ⟨a, b, c, d, e, fr_at f (hL 7 (by decide)) h1⟩, T, T2, fr_at f (hL 8 (by decide)) e8, fr_at f (hL 75 (by decide)) e75, h3⟩
theorem gV_fr {h h2 : mr_h} {L : List Nat} {n m : Nat} (g : gV h n m) (f : mr_fr h h2 L) (hL : ∀ a ∈ [28, 29, 30, 31, 82, 83, 84], a ∉ L) : gV h2 n m := by
  obtain ⟨h0, ⟨x, h1⟩, a, b, c, a2, b2, c2, e1, e2, e3, e4, e5, e6, h3⟩ := g
  exact ⟨h0, ⟨x, fr_at f (hL 28 (by decide)) h1⟩, a, b, c, a2, b2, c2, fr_at f (hL 29 (by decide)) e1, fr_at f (hL 30 (by decide)) e2, fr_at f (hL 31 (by decide)) e3, fr_at f (hL 82 (by decide)) e4, fr_at f (hL 83 (by decide)) e5, fr_at f (hL 84 (by decide)) e6, h3⟩
theorem nk_fr {h h2 : mr_h} {L : List Nat} {a n o : Nat} {D : Nat → Int32} (g : nk h a n D o) (f : mr_fr h h2 L) (h0 : a ∉ L) (h1 : a + 1 ∉ L) (h3 : a + 2 ∉ L) : nk h2 a n D o := by
  obtain ⟨g1, E, K, g2, g3, g4⟩ := g
  exact ⟨fr_at f h0 g1, E, K, fr_at f h1 g2, fr_at f h3 g3, g4⟩
theorem nshp_fr {h h2 : mr_h} {L : List Nat} {a : Nat} (g : nshp h a) (f : mr_fr h h2 L) (h0 : a ∉ L) (h1 : a + 1 ∉ L) (h3 : a + 2 ∉ L) : nshp h2 a := by
  obtain ⟨x, E, K, g1, g2, g3⟩ := g
  exact ⟨x, E, K, fr_at f h0 g1, fr_at f h1 g2, fr_at f h3 g3⟩
/-- no cell of the list lies among the kept Nets -/
abbrev offP (L : List Nat) : Prop := ∀ a ∈ L, ¬ (33 ≤ a ∧ a ≤ 64) ∧ a ≠ 81
abbrev offA (L : List Nat) : Prop := ∀ a ∈ L, ¬ (67 ≤ a ∧ a ≤ 73) ∧ a ≠ 79 ∧ a ≠ 80
theorem gP_fr {h h2 : mr_h} {L : List Nat} {n us : Nat} (g : gP h n us) (f : mr_fr h h2 L) (hL : offP L) : gP h2 n us := by
  have out : ∀ a, (33 ≤ a ∧ a ≤ 64) ∨ a = 81 → a ∉ L := fun a ha hm => by
    have := hL a hm
    omega
  obtain ⟨h0, h1, P, F, D, e34, hF, hi, e81, hs, hk⟩ := g
  refine ⟨h0, fr_at f (out _ (by omega)) h1, P, F, D, fr_at f (out _ (by omega)) e34, hF, hi, fr_at f (out _ (by omega)) e81, fun i hi' => ?_, fun i hi' => ?_⟩
  · exact nshp_fr (hs i hi') f (out _ (by omega)) (out _ (by omega)) (out _ (by omega))
  · have := (hF i (by omega)).2
    exact nk_fr (hk i hi') f (out _ (by omega)) (out _ (by omega)) (out _ (by omega))
theorem gA_fr {h h2 : mr_h} {L : List Nat} {n : Nat} (g : gA h n) (f : mr_fr h h2 L) (hL : offA L) : gA h2 n := by
  have out : ∀ a, (67 ≤ a ∧ a ≤ 73) ∨ a = 79 ∨ a = 80 → a ∉ L := fun a ha hm => by
    have := hL a hm
    omega
  obtain ⟨Z, Z2, D, e67, e80, e79, hk⟩ := g
  refine ⟨Z, Z2, D, fr_at f (out _ (by omega)) e67, fr_at f (out _ (by omega)) e80, fr_at f (out _ (by omega)) e79, fun i hi => ?_⟩
  obtain ⟨k1, k2, k3, k4⟩ := hk i hi
  exact ⟨k1, k2, nshp_fr k3 f (out _ (by omega)) (out _ (by omega)) (out _ (by omega)), fun z => nk_fr (k4 z) f (out _ (by omega)) (out _ (by omega)) (out _ (by omega))⟩
theorem gN_fr {h h2 : mr_h} {L : List Nat} {n : Nat} {E K : Nat → Int32} (g : gN h E K n) (f : mr_fr h h2 L) (hL : ∀ a ∈ [1, 2, 3, 9, 10, 11, 12, 13, 14, 15, 16, 77], a ∉ L) : gN h2 E K n := by
  obtain ⟨g1, g2, g3, g4, g5, g6, g7, S, g8, g9⟩ := g
  exact ⟨g1, g2, g3, fr_at f (hL 1 (by decide)) g4, fr_at f (hL 2 (by decide)) g5, fr_at f (hL 3 (by decide)) g6, DV_fr g7 f (fun a ha => hL a (by revert a; decide)), S, fr_at f (hL 77 (by decide)) g8, g9⟩
/-- one call on both sides: like answers, the state stands -/
def Both (c m : Nat) (as : List Value) (h : mr_h) : Prop := mr_run c (.ref 0 :: as) h (fun r1 h1 => mr_run m (.ref 74 :: as) h1 (fun r2 h2 => (∃ x : Int32, r1 = some (.int x) ∧ r2 = some (.int x)) ∧ Inv h2 ∧ h2.2 = h.2))
