/-! a new object and a new reference: the state stands -/
theorem DV_ag {h h2 : mr_h} {E K : Nat → Int32} {n : Nat} (hd : DV h E K n) (ag : ∀ x, x < 74 → h2.1 x = h.1 x) : DV h2 E K n := by
  obtain ⟨e9, A, B, C, I, O, R, L, e10, e11, e12, e13, e14, e15, e16, rest⟩ := hd
  exact ⟨(ag 9 (by decide)).trans e9, A, B, C, I, O, R, L, (ag 10 (by decide)).trans e10, (ag 11 (by decide)).trans e11, (ag 12 (by decide)).trans e12, (ag 13 (by decide)).trans e13, (ag 14 (by decide)).trans e14, (ag 15 (by decide)).trans e15, (ag 16 (by decide)).trans e16, rest⟩
theorem G_ext {G : Nat → Option Nat} (hG : ∀ i, i < 2 → G i = some (68 + 3 * i)) (hN : ∀ i, 2 ≤ i → G i = none) : G = fun i => if i = 0 then some 68 else if i = 1 then some 71 else none := by
  funext i
  by_cases h0 : i = 0
  · subst h0
    rw [if_pos rfl, hG 0 (by decide)]
  · rw [if_neg h0]
    by_cases h1 : i = 1
    · subst h1
      rw [if_pos rfl, hG 1 (by decide)]
    · rw [if_neg h1]
      exact hN i (by omega)
theorem Inv_0 {h h2 : mr_h} {E K : Nat → Int32} {F G : Nat → Option Nat} (rs : RS h E K F G) (ag : ∀ x, x < 74 → h2.1 x = h.1 x) (ms : MS h2) : Inv h2 := by
  obtain ⟨e0, ⟨hE, hK, e1, e2, e3, dv⟩, ns, ⟨e7, e8⟩, ⟨A17, e17⟩, ⟨e18, A19, e19⟩, ⟨e20, A21, e21⟩, ⟨e22, A23, e23⟩, ⟨e24, ⟨A25, e25⟩, ⟨A26, e26⟩, A27, e27⟩, ⟨e28, ⟨A29, e29⟩, ⟨A30, e30⟩, ⟨A31, e31⟩, A32, e32⟩, ⟨e33, e34, hF, hP⟩, e65, e66, hG, hN, e67, hA⟩ := rs
  obtain ⟨⟨tt, tk, pl, va, fa, dn, dr, uf, e74⟩, ⟨A75, e75⟩, ⟨A76, e76⟩, ⟨S, e77, hS⟩, ⟨A78, e78⟩, ⟨A79, e79⟩, ⟨Z, e80, hZ⟩, ⟨A81, e81⟩, ⟨A82, e82⟩, ⟨A83, e83⟩, ⟨A84, e84⟩, ⟨A85, e85⟩, ⟨A86, e86⟩, ⟨A87, e87⟩, ⟨A88, e88⟩, A89, e89⟩ := ms
  obtain ⟨x4, A5, A6, e4, e5, e6⟩ := ns
  have up : ∀ {a : Nat} {c : mr_c}, h.1 a = c → a < 74 → h2.1 a = c := fun e ha => (ag _ ha).trans e
  have nu : ∀ a, a + 2 < 74 → nshp h a → nshp h2 a := fun a ha s => nshp_ag s (fun x _ h3 => ag x (by omega))
  refine ⟨4, 0, 0, 0, E, K, ?_, ?_, ?_, ?_, ?_, ?_, ?_⟩
  · intro k hk
    have hc : k = 0 ∨ k = 4 ∨ k = 5 ∨ k = 6 ∨ k = 17 ∨ k = 18 ∨ k = 19 ∨ k = 20 ∨ k = 21 ∨ k = 22 ∨ k = 23 ∨ k = 24 ∨ k = 25 ∨ k = 26 ∨ k = 27 ∨ k = 32 ∨ k = 65 ∨ k = 66 ∨ k = 76 ∨ k = 78 ∨ k = 85 ∨ k = 86 ∨ k = 87 ∨ k = 88 ∨ k = 89 := by simpa [SLs] using hk
    rcases hc with z | z | z | z | z | z | z | z | z | z | z | z | z | z | z | z | z | z | z | z | z | z | z | z | z <;> subst z
    · exact up e0 (by decide)
    · exact ⟨x4, up e4 (by decide)⟩
    · exact ⟨A5, up e5 (by decide)⟩
    · exact ⟨A6, up e6 (by decide)⟩
    · exact ⟨A17, up e17 (by decide)⟩
    · exact up e18 (by decide)
    · exact ⟨A19, up e19 (by decide)⟩
    · exact up e20 (by decide)
    · exact ⟨A21, up e21 (by decide)⟩
    · exact up e22 (by decide)
    · exact ⟨A23, up e23 (by decide)⟩
    · exact ⟨0, 1, 0, up e24 (by decide)⟩
    · exact ⟨A25, up e25 (by decide)⟩
    · exact ⟨A26, up e26 (by decide)⟩
    · exact ⟨A27, up e27 (by decide)⟩
    · exact ⟨A32, up e32 (by decide)⟩
    · exact up e65 (by decide)
    · have e66' := e66
      rw [G_ext hG hN] at e66'
      exact up e66' (by decide)
    · exact ⟨A76, e76⟩
    · exact ⟨A78, e78⟩
    · exact ⟨A85, e85⟩
    · exact ⟨A86, e86⟩
    · exact ⟨A87, e87⟩
    · exact ⟨A88, e88⟩
    · exact ⟨A89, e89⟩
  · refine ⟨nt_0 hE, by decide, ⟨fun u hu => ⟨u, by omega, hK u hu⟩, fun u hu => ?_⟩, up e1 (by decide), up e2 (by decide), up e3 (by decide), DV_ag dv ag, S, e77, fun u hu => ⟨?_, ?_⟩⟩
    · rw [hE u (by omega)]
      exact b_0 u
    · rw [(hS u (by omega)).1, hE u (by omega)]
    · rw [(hS u (by omega)).2, hK u hu]
  · exact ⟨by decide, ⟨_, _, _, _, _, up e7 (by decide)⟩, _, A75, up e8 (by decide), e75, fun j hj => absurd hj (Nat.not_lt_zero j)⟩
  · exact ⟨by decide, ⟨0, up e28 (by decide)⟩, A29, A30, A31, A82, A83, A84, up e29 (by decide), up e30 (by decide), up e31 (by decide), e82, e83, e84, fun j hj => absurd hj (Nat.not_lt_zero j)⟩
  · exact ⟨by decide, up e33 (by decide), fun i => i, F, A81, up e34 (by decide), fun i hi => ⟨hF i hi, hi⟩, fun i j _ _ e => e, e81, fun i hi => nu _ (by omega) (hP i hi), fun i hi => absurd hi (Nat.not_lt_zero i)⟩
  · refine ⟨_, Z, A79, up e67 (by decide), e80, e79, fun i hi => ⟨(hZ i hi).symm, Or.inl rfl, nu _ (by omega) (hA i hi), fun z => absurd z (by decide)⟩⟩
  · exact ⟨0, tt, tk, pl, va, fa, dn, dr, uf, e74⟩
