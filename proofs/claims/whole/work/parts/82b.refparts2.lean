/-! THE REFERENCE: findParts, its numbers -/
section RFQ
variable {n : Nat} {h : zH} {W H N : Nat} {T : Nat → Bool} {F G : Nat → Int}
/-- what a numbering under way holds -/
def NuI (N : Nat) (T : Nat → Bool) (r : Nat → Nat) (h0 : zH) (k : Nat) (s : zH × Nat × (Nat → Nat)) : Prop := (∀ p, p < s.2.1 → s.2.2 p < k ∧ s.2.2 p < N ∧ T (s.2.2 p) = true ∧ r (s.2.2 p) = s.2.2 p) ∧ (∀ p p', p < p' → p' < s.2.1 → s.2.2 p < s.2.2 p') ∧ (∀ i, i < N → T i = true → (k ≤ r i ∧ s.1 217 i = (r i : Int)) ∨ ∃ p : Nat, p < s.2.1 ∧ s.2.2 p = r i ∧ s.1 217 i = -10 - (p : Int)) ∧ (∀ i, i < N → T i = false → s.1 217 i = -1) ∧ s.1 202 32 = (s.2.1 : Int) ∧ s.2.1 ≤ k ∧ ∀ x k, x ≠ 217 → ¬ (x = 202 ∧ k = 32) → s.1 x k = h0 x k
theorem nu_step {r : Nat → Nat} {h0 : zH} {k : Nat} {s : zH × Nat × (Nat → Nat)} (h25 : N ≤ 25) (hN : h0 202 23 = N) (hr : ∀ i, i < N → T i = true → r i ≤ i ∧ T (r i) = true ∧ r (r i) = r i) (hk : k < N) (I : NuI N T r h0 k s) : ∃ s', Zx 170 89 [zR 202, zN, zN, zI (k : Int), zN] [] (Z0 n) s.1 = Zx 170 89 [zR 202, zN, zN, zI ((k + 1 : Nat) : Int), zN] [] (Z0 n) s'.1 ∧ NuI N T r h0 (k + 1) s' := by
  obtain ⟨g, m, ρ⟩ := s
  obtain ⟨i1, i2, i3, i4, i5, i6, i7⟩ := I
  (try dsimp only at i1 i2 i3 i4 i5 i6 i7 ⊢)
  have e23 : g 202 23 = N := (i7 _ _ (by omega) (by omega)).trans hN
  have start := b170_89 (n := n) (h := g) (l3 := (k : Int)) (by intros; omega) (by intros; omega)
  rw [e23, zw_nat (by omega), zw_nat (by omega), if_neg (by omega), Int.toNat_natCast] at start
  have zin : ∀ i, i < N → T i = true → zw (g 217 i) = g 217 i := fun i hi ti => by
    have := (hr i hi ti).1
    rcases i3 i hi ti with ⟨q1, q2⟩ | ⟨p, q1, q2, q3⟩
    · rw [q2, zw_nat (by omega)]
    · rw [q3, zw_id (by omega) (by omega)]
  by_cases c : T k = true ∧ r k = k
  case neg =>
    have ne : ¬ zw (g 217 k) = (k : Int) := by
      cases tk : T k
      · rw [i4 k hk tk, zwm1]; omega
      · rw [zin k hk tk]
        rcases i3 k hk tk with ⟨q1, q2⟩ | ⟨p, q1, q2, q3⟩
        · rw [q2]
          intro z
          exact c ⟨tk, by omega⟩
        · rw [q3]; omega
    rw [if_pos ne, b170_132] at start
    refine ⟨(g, m, ρ), start, fun p hp => ?_, i2, fun i hi ti => ?_, i4, i5, by (try dsimp only); omega, i7⟩
    · have := i1 p hp
      (try dsimp only)
      exact ⟨by omega, this.2⟩
    · rcases i3 i hi ti with ⟨q1, q2⟩ | q
      · left
        refine ⟨?_, q2⟩
        have a := hr i hi ti
        by_cases d : r i = k
        · rw [d] at a
          exact absurd ⟨a.2.1, a.2.2⟩ c
        · omega
      · exact Or.inr q
  obtain ⟨tk, rk⟩ := c
  have gk : g 217 k = (k : Int) := by
    rcases i3 k hk tk with ⟨q1, q2⟩ | ⟨p, q1, q2, q3⟩
    · rw [q2, rk]
    · have := (i1 p q1).1
      omega
  rw [gk, zw_nat (by omega), if_neg (fun z => z rfl)] at start
  obtain ⟨g', e, j1, j2, j3⟩ := z_inv (N := N - k) (X := fun t (u : zH) => Zx 170 101 [zR 202, zN, zN, zI (k : Int), zI ((k + t : Nat) : Int)] [] (Z0 n) u) (I := fun t u => (∀ i, i < N → T i = true → (k + 1 ≤ r i ∧ u 217 i = (r i : Int)) ∨ (∃ p : Nat, p < m ∧ ρ p = r i ∧ u 217 i = -10 - (p : Int)) ∨ (r i = k ∧ ((i < k + t ∧ u 217 i = -10 - (m : Int)) ∨ (k + t ≤ i ∧ u 217 i = (k : Int))))) ∧ (∀ i, i < N → T i = false → u 217 i = -1) ∧ ∀ x k, x ≠ 217 → u x k = g x k) (s := g) ⟨fun i hi ti => by
    rcases i3 i hi ti with ⟨q1, q2⟩ | q
    · by_cases d : r i = k
      · refine Or.inr (Or.inr ⟨d, Or.inr ⟨?_, by rw [q2, d]⟩⟩)
        have := (hr i hi ti).1
        omega
      · exact Or.inl ⟨by omega, q2⟩
    · exact Or.inr (Or.inl q), i4, fun x k _ => rfl⟩ (fun t u ht Iu => by
    obtain ⟨j1, j2, j3⟩ := Iu
    have hi : k + t < N := by omega
    have e23u : u 202 23 = N := (j3 _ _ (by omega)).trans e23
    have e32u : u 202 32 = (m : Int) := (j3 _ _ (by omega)).trans i5
    have st := b170_101 (n := n) (h := u) (l3 := (k : Int)) (l4 := ((k + t : Nat) : Int)) (by intros; omega) (by intros; omega) (by intros; omega) (by intros; omega)
    rw [e23u, zw_nat (n := N) (by omega), zw_nat (n := k + t) (by omega), zw_nat (n := k) (by omega), if_neg (by omega), Int.toNat_natCast, e32u] at st
    have zu' : zw (u 217 (k + t)) = u 217 (k + t) := by
      cases ti : T (k + t)
      · rw [j2 _ hi ti, zwm1]
      · have := (hr _ hi ti).1
        rcases j1 _ hi ti with ⟨q1, q2⟩ | ⟨p, q1, q2, q3⟩ | ⟨q1, ⟨q2, q3⟩ | ⟨q2, q3⟩⟩
        · rw [q2, zw_nat (by omega)]
        · rw [q3, zw_id (by omega) (by omega)]
        · rw [q3, zw_id (by omega) (by omega)]
        · rw [q3, zw_nat (by omega)]
    rw [zu'] at st
    by_cases d : u 217 (k + t) = (k : Int)
    · have ti : T (k + t) = true ∧ r (k + t) = k := by
        cases ti : T (k + t)
        · have := j2 _ hi ti; omega
        · refine ⟨rfl, ?_⟩
          rcases j1 _ hi ti with ⟨q1, q2⟩ | ⟨p, q1, q2, q3⟩ | ⟨q1, _⟩
          · omega
          · omega
          · exact q1
      rw [if_neg (fun z => z d), b170_123 (zcl217 n) (by omega) (by intros; omega) (by intros; omega), Int.toNat_natCast] at st
      refine ⟨_, st, fun i hi' ti' => ?_, fun i hi' ti' => ?_, fun x k q => by rw [zu_off (by omega)]; exact j3 x k q⟩
      · by_cases c : i = k + t
        · subst c
          exact Or.inr (Or.inr ⟨ti.2, Or.inl ⟨by omega, zu_eq⟩⟩)
        · rw [zu_off (by omega)]
          rcases j1 i hi' ti' with q | q | ⟨q1, ⟨q2, q3⟩ | ⟨q2, q3⟩⟩
          · exact Or.inl q
          · exact Or.inr (Or.inl q)
          · exact Or.inr (Or.inr ⟨q1, Or.inl ⟨by omega, q3⟩⟩)
          · exact Or.inr (Or.inr ⟨q1, Or.inr ⟨by omega, q3⟩⟩)
      · have : i ≠ k + t := fun z => by rw [z, ti.1] at ti'; cases ti'
        rw [zu_off (by omega)]
        exact j2 i hi' ti'
    · rw [if_pos d, b170_123 (zcl217 n) (by omega) (by intros; omega) (by intros; omega), Int.toNat_natCast] at st
      refine ⟨_, st, fun i hi' ti' => ?_, fun i hi' ti' => ?_, fun x k q => by rw [zu_off (by omega)]; exact j3 x k q⟩
      · have ee : (zu u 217 (k + t) (u 217 (k + t))) 217 i = u 217 i := by
          by_cases c : i = k + t
          · rw [c, zu_eq]
          · rw [zu_off (by omega)]
        rw [ee]
        rcases j1 i hi' ti' with q | q | ⟨q1, ⟨q2, q3⟩ | ⟨q2, q3⟩⟩
        · exact Or.inl q
        · exact Or.inr (Or.inl q)
        · exact Or.inr (Or.inr ⟨q1, Or.inl ⟨by omega, q3⟩⟩)
        · by_cases c : i = k + t
          · rw [c] at q3; exact absurd q3 d
          · exact Or.inr (Or.inr ⟨q1, Or.inr ⟨by omega, q3⟩⟩)
      · have ee : (zu u 217 (k + t) (u 217 (k + t))) 217 i = u 217 i := by
          by_cases c : i = k + t
          · rw [c, zu_eq]
          · rw [zu_off (by omega)]
        rw [ee]
        exact j2 i hi' ti')
  have eN : ((k + (N - k) : Nat) : Int) = (N : Int) := by omega
  (try dsimp only at e)
  rw [eN] at e
  have e23' : g' 202 23 = N := (j3 _ _ (by omega)).trans e23
  have e32' : g' 202 32 = (m : Int) := (j3 _ _ (by omega)).trans i5
  have st2 := b170_101 (n := n) (h := g') (l3 := (k : Int)) (l4 := (N : Int)) (by rw [e23']; intro q; exact absurd (Int.le_refl _) q) (by rw [e23']; intro q; exact absurd (Int.le_refl _) q) (by rw [e23']; intro q; exact absurd (Int.le_refl _) q) (by rw [e23']; intro q; exact absurd (Int.le_refl _) q)
  rw [e23', if_pos (Int.le_refl _), e32', b170_132] at st2
  refine ⟨(zu g' 202 32 ((m : Int) + 1), m + 1, fun p => if p = m then k else ρ p), start.trans (e.trans st2), fun p hp => ?_, fun p p' hp hp' => ?_, fun i hi ti => ?_, fun i hi ti => ?_, ?_, by (try dsimp only); omega, fun x k q1 q2 => ?_⟩
  · (try dsimp only at hp ⊢)
    by_cases c : p = m
    · rw [if_pos c]; exact ⟨by omega, hk, tk, rk⟩
    · rw [if_neg c]
      have := i1 p (by omega)
      exact ⟨by omega, this.2⟩
  · (try dsimp only at hp hp' ⊢)
    rw [if_neg (by omega)]
    by_cases c : p' = m
    · rw [if_pos c]; exact (i1 p (by omega)).1
    · rw [if_neg c]; exact i2 p p' hp (by omega)
  · (try dsimp only)
    rw [zu_off (by omega)]
    rcases j1 i hi ti with q | ⟨p, q1, q2, q3⟩ | ⟨q1, ⟨q2, q3⟩ | ⟨q2, q3⟩⟩
    · exact Or.inl q
    · exact Or.inr ⟨p, by omega, by rw [if_neg (by omega)]; exact q2, q3⟩
    · exact Or.inr ⟨m, by omega, by rw [if_pos rfl]; exact q1.symm, q3⟩
    · omega
  · (try dsimp only)
    rw [zu_off (by omega)]
    exact j2 i hi ti
  · show zu g' 202 32 ((m : Int) + 1) 202 32 = ((m + 1 : Nat) : Int)
    rw [zu_eq]
    omega
  · (try dsimp only)
    rw [zu_off (by omega), j3 _ _ (by omega)]
    exact i7 x k q1 q2
/-- FringeBenchModel.findParts, its first loop -/
theorem lb_first {hv : Int} (hR : RfC h W H N T F G) (hw : wfS W H N T F G) (hz : zint hv) : ∃ g : zH, Zx 170 0 [zR 202, zI hv, zN, zN, zN] [] (Z0 n) h = Zx 170 27 [zR 202, zN, zI 1, zN, zN] [] (Z0 n) g ∧ LbI N W (fun k => T k && decide (hv ≤ G k)) h g (fun k => k) := by
  have hN := hw.2.2.2.1
  obtain ⟨g, e, j1, j2⟩ := z_inv (N := 25) (X := fun i (g : zH) => Zx 170 2 [zR 202, zI hv, zI (i : Int), zN, zN] [] (Z0 n) g) (I := fun i g => (∀ k, k < N → k < i → g 217 k = if (T k && decide (hv ≤ G k)) = true then (k : Int) else -1) ∧ ∀ x k, x ≠ 217 → g x k = h x k) (s := h) ⟨fun k _ q => absurd q (Nat.not_lt_zero k), fun x k _ => rfl⟩ (fun i g hi Ig => by
    obtain ⟨j1, j2⟩ := Ig
    have hRg : RfC g W H N T F G := hR.cg (fun x k q => j2 x k (by omega))
    have fin : ∀ v : Int, (i < N → v = if (T i && decide (hv ≤ G i)) = true then (i : Int) else -1) → Zx 170 2 [zR 202, zI hv, zI (i : Int), zN, zN] [] (Z0 n) g = Zx 170 22 [zR 202, zI hv, zI (i : Int), zN, zN] [zI v, zI (i : Int), zR 217] (Z0 n) g → ∃ g', Zx 170 2 [zR 202, zI hv, zI (i : Int), zN, zN] [] (Z0 n) g = Zx 170 2 [zR 202, zI hv, zI ((i + 1 : Nat) : Int), zN, zN] [] (Z0 n) g' ∧ (∀ k, k < N → k < i + 1 → g' 217 k = if (T k && decide (hv ≤ G k)) = true then (k : Int) else -1) ∧ ∀ x k, x ≠ 217 → g' x k = h x k := fun v hv2 e => by
      rw [b170_22 (zcl217 n) (by omega) (by intros; omega) (by intros; omega), Int.toNat_natCast] at e
      refine ⟨_, e, fun k hk hki => ?_, fun x k q => by rw [zu_off (by omega)]; exact j2 x k q⟩
      by_cases c : k = i
      · subst c
        rw [zu_eq]; exact hv2 hk
      · rw [zu_off (by omega)]; exact j1 k hk (by omega)
    have st := b170_2 (n := n) (h := g) (l1 := hv) (l2 := (i : Int)) (by intros; omega) (by intros; omega) (by intros; omega) (by intros; omega)
    rw [zw_nat (by omega), if_neg (by omega), Int.toNat_natCast, hz.e] at st
    by_cases ci : i < N
    · have th := hRg.th ci
      by_cases c : zw (zb1 (g 216 i)) = 0
      · rw [if_pos c, b170_21 (zcl217 n) (by omega)] at st
        exact fin (-1) (fun _ => by rw [th.mp c]; rfl) st
      · have ti : T i = true := by
          cases z : T i
          · exact absurd (th.mpr z) c
          · rfl
        have wr := (hw.2.2.2.2 i ci).2.2
        rw [if_neg c, (hRg.2.2.2.1 i ci).2.2, zw_id (z := G i) (by omega) (by omega)] at st
        by_cases d : G i < hv
        · rw [if_pos d, b170_21 (zcl217 n) (by omega)] at st
          exact fin (-1) (fun _ => by rw [decide_eq_false (show ¬ hv ≤ G i by omega), Bool.and_false]; rfl) st
        · rw [if_neg d] at st
          exact fin (i : Int) (fun _ => by rw [ti, decide_eq_true (show hv ≤ G i by omega)]; rfl) st
    · rw [hRg.2.2.2.2 i (by omega) hi, if_pos zw0, b170_21 (zcl217 n) (by omega)] at st
      exact fin (-1) (fun z => absurd z ci) st)
  refine ⟨g, ?_, fun k hk tk => ?_, fun k hk tk => ?_, j2⟩
  · rw [b170_0]
    refine e.trans ?_
    show Zx 170 2 _ _ _ _ = _
    rw [b170_2 (fun q => absurd (by decide) q) (fun q => absurd (by decide) q) (fun q => absurd (by decide) q) (fun q => absurd (by decide) q), if_pos (by decide)]
  · refine ⟨?_, Nat.le_refl _, tk, fun R _ q => q⟩
    rw [j1 k hk (by omega)]
    (try dsimp only at tk)
    rw [if_pos tk]
  · rw [j1 k hk (by omega)]
    (try dsimp only at tk)
    rw [tk]
    rfl
/-- FringeBenchModel.findParts -/
theorem m_fpa {hv : Int} (hR : RfC h W H N T F G) (hw : wfS W H N T F G) (hz : zint hv) : ∃ g : zH, Zx 170 0 [zR 202, zI hv, zN, zN, zN] [] (Z0 n) h = some (none, Z0 n, g) ∧ g 202 32 = (pM N W (fun k => T k && decide (hv ≤ G k)) : Int) ∧ (∀ k, k < N → g 217 k = if (T k && decide (hv ≤ G k)) = true then pP N W (fun k => T k && decide (hv ≤ G k)) k else -1) ∧ ∀ x k, x ≠ 217 → ¬ (x = 202 ∧ k = 32) → g x k = h x k := by
  have h25 := hw.2.2.2.1
  have eN := hR.2.2.1
  have eW := hR.1
  obtain ⟨g1, e1, I1⟩ := lb_first (n := n) hR hw hz
  generalize hU : (fun k => T k && decide (hv ≤ G k)) = U at *
  have lm := lbm_nn (N := N) (T := U) (r := fun k => k)
  obtain ⟨g2, r, e2, ⟨c1, c2, c3⟩, cc⟩ := lb_all (n := n) eN eW hw.1 h25 (lbm N U (fun k => k)).toNat g1 _ I1 (by omega)
  have hr : ∀ i, i < N → U i = true → r i ≤ i ∧ U (r i) = true ∧ r (r i) = r i := fun i hi ti => by
    obtain ⟨d1, d2, d3, d4⟩ := c1 i hi ti
    refine ⟨d2, d3, ?_⟩
    have q := d4 (fun x => decide (r x = r (r i))) (fun a b ha hb ta tb bb => by
      show decide (r a = r (r i)) = decide (r b = r (r i))
      rw [cc a b ha hb ta tb bb]) (decide_eq_true rfl)
    exact (of_decide_eq_true q).symm
  have e23 : g2 202 23 = N := (c3 _ _ (by omega)).trans eN
  obtain ⟨⟨g3, m, ρ⟩, e3, I3⟩ := z_inv (N := N) (X := fun k s => Zx 170 89 [zR 202, zN, zN, zI (k : Int), zN] [] (Z0 n) s.1) (I := fun k s => NuI N U r h k s) (s := ((zu g2 202 32 0, 0, fun _ => 0) : zH × Nat × (Nat → Nat))) ⟨fun p hp => absurd hp (Nat.not_lt_zero p), fun p p' _ hp => absurd hp (Nat.not_lt_zero p'), fun i hi ti => Or.inl ⟨Nat.zero_le _, by show zu g2 202 32 0 217 i = _; rw [zu_off (by omega)]; exact (c1 i hi ti).1⟩, fun i hi ti => by show zu g2 202 32 0 217 i = _; rw [zu_off (by omega)]; exact c2 i hi ti, (by show zu g2 202 32 0 202 32 = ((0 : Nat) : Int); rw [zu_eq]; rfl), Nat.le_refl _, fun x k q1 q2 => by show zu g2 202 32 0 x k = _; rw [zu_off (by omega)]; exact c3 x k q1⟩ (fun k s hk Is => nu_step h25 eN hr hk Is)
  obtain ⟨i1, i2, i3, i4, i5, i6, i7⟩ := I3
  (try dsimp only at i1 i2 i3 i4 i5 i6 i7 e3)
  have e23c : g3 202 23 = N := (i7 _ _ (by omega) (by omega)).trans eN
  have i3' : ∀ i, i < N → U i = true → ∃ p : Nat, p < m ∧ ρ p = r i ∧ g3 217 i = -10 - (p : Int) := fun i hi ti => by
    rcases i3 i hi ti with ⟨q1, q2⟩ | q
    · have := (hr i hi ti).1; omega
    · exact q
  have e4 : Zx 170 89 [zR 202, zN, zN, zI (N : Int), zN] [] (Z0 n) g3 = Zx 170 136 [zR 202, zN, zN, zI 0, zN] [] (Z0 n) g3 := by
    rw [b170_89 (by rw [e23c]; intro q; exact absurd (Int.le_refl _) q) (by rw [e23c]; intro q; exact absurd (Int.le_refl _) q), e23c, if_pos (Int.le_refl _)]
  obtain ⟨g4, e5, j1, j2, j3⟩ := z_inv (N := N) (X := fun k (u : zH) => Zx 170 136 [zR 202, zN, zN, zI (k : Int), zN] [] (Z0 n) u) (I := fun k u => (∀ i, i < N → U i = true → ∃ p : Nat, p < m ∧ ρ p = r i ∧ u 217 i = if i < k then (p : Int) else -10 - (p : Int)) ∧ (∀ i, i < N → U i = false → u 217 i = -1) ∧ ∀ x k, x ≠ 217 → u x k = g3 x k) (s := g3) ⟨fun i hi ti => by
      obtain ⟨p, q1, q2, q3⟩ := i3' i hi ti
      exact ⟨p, q1, q2, by rw [if_neg (Nat.not_lt_zero i)]; exact q3⟩, i4, fun x k _ => rfl⟩ (fun k u hk Iu => by
    obtain ⟨j1, j2, j3⟩ := Iu
    have e23u : u 202 23 = N := (j3 _ _ (by omega)).trans e23c
    have st := b170_136 (n := n) (h := u) (l3 := (k : Int)) (by intros; omega) (by intros; omega) (by intros; omega) (by intros; omega)
    rw [e23u, zw_nat (by omega), zw_nat (by omega), if_neg (by omega), Int.toNat_natCast] at st
    cases tk : U k
    · rw [j2 k hk tk, zwm1, if_pos (by omega), b170_157 (zcl217 n) (by omega) (by intros; omega) (by intros; omega), Int.toNat_natCast] at st
      refine ⟨_, st, fun i hi ti => ?_, fun i hi ti => ?_, fun x k q => by rw [zu_off (by omega)]; exact j3 x k q⟩
      · have : i ≠ k := fun z => by rw [z, tk] at ti; cases ti
        obtain ⟨p, q1, q2, q3⟩ := j1 i hi ti
        refine ⟨p, q1, q2, ?_⟩
        rw [zu_off (by omega), q3]
        by_cases c : i < k
        · rw [if_pos c, if_pos (by omega)]
        · rw [if_neg c, if_neg (by omega)]
      · by_cases c : i = k
        · rw [c, zu_eq]
        · rw [zu_off (by omega)]; exact j2 i hi ti
    · obtain ⟨p, q1, q2, q3⟩ := j1 k hk tk
      rw [if_neg (by omega)] at q3
      rw [q3, zw_id (z := -10 - (p : Int)) (by omega) (by omega), if_neg (by omega), b170_157 (zcl217 n) (by omega) (by intros; omega) (by intros; omega), Int.toNat_natCast] at st
      refine ⟨_, st, fun i hi ti => ?_, fun i hi ti => ?_, fun x k q => by rw [zu_off (by omega)]; exact j3 x k q⟩
      · by_cases c : i = k
        · subst c
          refine ⟨p, q1, q2, ?_⟩
          rw [zu_eq, if_pos (by omega)]
          omega
        · obtain ⟨p', q1', q2', q3'⟩ := j1 i hi ti
          refine ⟨p', q1', q2', ?_⟩
          rw [zu_off (by omega), q3']
          by_cases c : i < k
          · rw [if_pos c, if_pos (by omega)]
          · rw [if_neg c, if_neg (by omega)]
      · have : i ≠ k := fun z => by rw [z, tk] at ti; cases ti
        rw [zu_off (by omega)]; exact j2 i hi ti)
  have e23d : g4 202 23 = N := (j3 _ _ (by omega)).trans e23c
  have fin : Zx 170 0 [zR 202, zI hv, zN, zN, zN] [] (Z0 n) h = some (none, Z0 n, g4) := by
    rw [e1, e2]
    refine e3.trans (e4.trans (e5.trans ?_))
    show Zx 170 136 _ _ _ _ = _
    rw [b170_136 (by rw [e23d]; intro q; exact absurd (Int.le_refl _) q) (by rw [e23d]; intro q; exact absurd (Int.le_refl _) q) (by rw [e23d]; intro q; exact absurd (Int.le_refl _) q) (by rw [e23d]; intro q; exact absurd (Int.le_refl _) q), e23d, if_pos (Int.le_refl _)]
  have j1' : ∀ i, i < N → U i = true → ∃ p : Nat, p < m ∧ ρ p = r i ∧ g4 217 i = (p : Int) := fun i hi ti => by
    obtain ⟨p, q1, q2, q3⟩ := j1 i hi ti
    rw [if_pos hi] at q3
    exact ⟨p, q1, q2, q3⟩
  have inj : ∀ p p', p < m → p' < m → ρ p = ρ p' → p = p' := fun p p' hp hp' q => by
    by_cases c : p < p'
    · have := i2 p p' c hp'; omega
    · by_cases d : p' < p
      · have := i2 p' p d hp; omega
      · omega
  have isp : isP N W U (fun k => g4 217 k) m ρ := by
    refine ⟨fun a b ha hb ta tb bb => ?_, fun p hp => ?_, i2, fun k hk tk => ?_⟩
    · obtain ⟨p, q1, q2, q3⟩ := j1' a ha ta
      obtain ⟨p', q1', q2', q3'⟩ := j1' b hb tb
      have := inj p p' q1 q1' (by rw [q2, q2', cc a b ha hb ta tb bb])
      (try dsimp only)
      rw [q3, q3', this]
    · obtain ⟨b1, b2, b3, b4⟩ := i1 p hp
      refine ⟨b2, b3, ?_⟩
      obtain ⟨p', q1', q2', q3'⟩ := j1' _ b2 b3
      have := inj p' p q1' hp (by rw [q2', b4])
      (try dsimp only)
      rw [q3', this]
    · obtain ⟨p, q1, q2, q3⟩ := j1' k hk tk
      obtain ⟨d1, d2, d3, d4⟩ := c1 k hk tk
      exact ⟨p, q1, q3, by rw [q2]; exact d2, fun R hR' rb => d4 R hR' (by rw [← q2]; exact rb)⟩
  obtain ⟨ρ', hP⟩ := pP_isP (N := N) (W := W) (T := U)
  obtain ⟨u1, u2, u3⟩ := isp.uniq hP
  refine ⟨g4, fin, ?_, fun k hk => ?_, fun x k q1 q2 => by rw [j3 x k q1]; exact i7 x k q1 q2⟩
  · rw [j3 _ _ (by omega), i5, u1]
  · have hUk : (T k && decide (hv ≤ G k)) = U k := by rw [← hU]
    rw [hUk]
    cases tk : U k
    · rw [if_neg (by decide)]; exact j2 k hk tk
    · rw [if_pos rfl]; exact u3 k hk tk
end RFQ
