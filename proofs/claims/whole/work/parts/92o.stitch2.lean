/-! QUESTIONS: the reference's stitching -/
section STJ
variable {n : Nat} {h : zH} {A : aS}
/-- FringeBenchModel.hand -/
theorem m_han2 (hM : McT h 0 A) (hA : wfA A) {p : Nat} (hp : p < aNp A) : ∃ g : zH, Zx 162 0 [zR 202, zI (p : Int), zN, zN, zN] [] (Z0 n) h = some (some (zI 1), Z0 n, g) ∧ HdD g (aPic A p) ∧ RfD g (aPic A p) ∧ g 202 30 = cnT (dN (aPic A p)) (dT (aPic A p)) ∧ frM g h ∧ ∀ x k, (216 < x ∨ (x = 202 ∧ 45 ≤ k)) → g x k = h x k := by
  have np := hA.2.1
  have hD := hA.2.2.1 p hp
  have hP := hM.2.2.2.1 p hp
  rw [show 534 * 0 + 178 * p = 178 * p by omega] at hP
  have ip := m_isp (n := n) hM hA (p := (p : Int)) ⟨by omega, by omega⟩
  rw [if_pos (by omega)] at ip
  obtain ⟨p1, p2, p3, -, -⟩ := id hP
  have t0 : ((178 : Int) * (p : Int)).toNat = 178 * p := by omega
  have t1 : (((178 : Int) * (p : Int)) + 1).toNat = 178 * p + 1 := by omega
  have t2 : (((178 : Int) * (p : Int)) + 2).toNat = 178 * p + 2 := by omega
  have st := b162_2 (n := n) (h := h) (l1 := (p : Int)) ip (by intros; omega) (by intros; omega) (by intros; omega) (by intros; omega) (by intros; omega) (by intros; omega)
  rw [if_pos (show ¬ zw 1 = 0 by decide), t0, t1, t2] at st
  (repeat (first | rw [zu_eq] at st | rw [zu_off (by omega)] at st))
  rw [p1, p2, p3] at st
  generalize hg0 : zu (zu (zu (zu h 202 20 (dW (aPic A p) : Int)) 202 21 (dH (aPic A p) : Int)) 202 22 (dL (aPic A p))) 202 23 ((dW (aPic A p) : Int) * (dH (aPic A p) : Int)) = g0 at st
  have f0 : ∀ x k, x ≠ 202 → g0 x k = h x k := fun x k q => by
    rw [← hg0]; (repeat (first | rw [zu_eq] | rw [zu_off (by omega)]))
  have f0' : ∀ x k, (216 < x ∨ (x = 202 ∧ 45 ≤ k)) → g0 x k = h x k := fun x k q => by
    rw [← hg0]; (repeat (first | rw [zu_eq] | rw [zu_off (by omega)]))
  have c20 : g0 202 20 = (dW (aPic A p) : Int) := by rw [← hg0]; (repeat (first | rw [zu_eq] | rw [zu_off (by omega)]))
  have c21 : g0 202 21 = (dH (aPic A p) : Int) := by rw [← hg0]; (repeat (first | rw [zu_eq] | rw [zu_off (by omega)]))
  have c22 : g0 202 22 = dL (aPic A p) := by rw [← hg0]; (repeat (first | rw [zu_eq] | rw [zu_off (by omega)]))
  have c23 : g0 202 23 = ((dN (aPic A p) : Nat) : Int) := by rw [← hg0, zu_eq, Int.natCast_mul]
  obtain ⟨g1, e1, i1, i2, i3⟩ := z_inv (N := 25) (X := fun k (g : zH) => Zx 162 41 [zR 202, zN, zI ((178 * p : Nat) : Int), zI (k : Int), zN] [] (Z0 n) g) (I := fun k g => (∀ j, j < k → g 212 j = dG (aPic A p) j ∧ g 213 j = dP (aPic A p) j ∧ zb1 (g 214 j) = if dO (aPic A p) j = true then 1 else 0) ∧ (∀ j i, j < k → i < 4 → g 211 (25 * i + j) = dS (aPic A p) (25 * i + j)) ∧ ∀ x j, (x < 211 ∨ 214 < x) → g x j = g0 x j) (s := g0) ⟨fun j q => absurd q (Nat.not_lt_zero j), fun j i q _ => absurd q (Nat.not_lt_zero j), fun x j _ => rfl⟩ (fun k g hk Ig => by
    obtain ⟨i1, i2, i3⟩ := Ig
    have hPg : McP g (178 * p) (aPic A p) := by
      obtain ⟨d1, d2, d3, d4, d5⟩ := hP
      have e : ∀ j, g 208 j = h 208 j := fun j => by rw [i3 _ _ (by omega)]; exact f0 _ _ (by omega)
      refine ⟨by rw [e]; exact d1, by rw [e]; exact d2, by rw [e]; exact d3, fun k hk => by rw [e]; exact d4 k hk, fun k hk => ?_⟩
      rw [e, e, e]
      exact d5 k hk
    obtain ⟨g', e, a1, a2, a3, a4, a5, a6, a7⟩ := han_px (n := n) hPg (by omega) hk
    refine ⟨g', e, fun j hj => ?_, fun j i hj hi => ?_, fun x j q => by rw [a7 x j q]; exact i3 x j q⟩
    · by_cases c : j = k
      · rw [c]; exact ⟨a1, a2, a3⟩
      · rw [a5 _ _ (Or.inl rfl) c, a5 _ _ (Or.inr (Or.inl rfl)) c, a5 _ _ (Or.inr (Or.inr rfl)) c]
        exact i1 j (by omega)
    · by_cases c : j = k
      · rw [c]; exact a4 i hi
      · rw [a6 _ (fun i' hi' => by omega)]
        exact i2 j i (by omega) hi)
  have hH : HdD g1 (aPic A p) := by
    refine ⟨by rw [i3 _ _ (by omega)]; exact c20, by rw [i3 _ _ (by omega)]; exact c21, by rw [i3 _ _ (by omega)]; exact c22, by rw [i3 _ _ (by omega)]; exact c23, fun k hk => ?_, fun k hk => i1 k hk⟩
    have := i2 (k % 25) (k / 25) (by omega) (by omega)
    rw [show 25 * (k / 25) + k % 25 = k by omega] at this
    exact this
  obtain ⟨g2, e2, H2, R2, n2, -, f2⟩ := m_fph (n := n) hH hD
  refine ⟨g2, ?_, H2, R2, n2, fun x k q => ?_, fun x k q => ?_⟩
  · rw [b162_0, st, show ((178 : Int) * (p : Int)) = ((178 * p : Nat) : Int) by omega]
    refine e1.trans ?_
    show Zx 162 41 _ _ _ _ = _
    rw [b162_41 (fun q => absurd (by decide) q) (fun q => absurd (by decide) q) (fun q => absurd (by decide) q) (fun q => absurd (by decide) q) (fun q => absurd (by decide) q) (fun q => absurd (by decide) q) (fun q => absurd (by decide) q) (fun q => absurd (by decide) q) (fun q => absurd (by decide) q) (fun q => absurd (by decide) q), if_pos (by decide), b162_115 e2]
  · rw [f2 x k (by omega) (by omega) (by omega), i3 x k (by omega)]
    exact f0 x k (by omega)
  · rw [f2 x k (by omega) (by omega) (by omega), i3 x k (by omega)]
    exact f0' x k q
/-- FringeBenchModel.lay, what it leaves alone -/
theorem m_lay2 (hM : McT h 0 A) (hA : wfA A) {p : Nat} (hp : p < aNp A) : ∃ g : zH, Zx 187 0 [zR 202, zI (p : Int)] [] (Z0 n) h = some (some (zI 1), Z0 n, g) ∧ RtD g (aPic A p) ∧ frM g h ∧ ∀ x k, (229 < x ∨ (x = 202 ∧ 45 ≤ k)) → g x k = h x k := by
  have hD := hA.2.2.1 p hp
  obtain ⟨g1, e1, H1, R1, n1, f1, k1⟩ := m_han2 (n := n) hM hA hp
  obtain ⟨g2, z, tl, tg, e2, V2, f2⟩ := m_ftu (n := n) R1 (wfS_D hD)
  refine ⟨g2, ?_, V2.cn (wfS_D hD), fun x k q => by rw [f2 x k (by omega) (by omega)]; exact f1 x k q, fun x k q => by rw [f2 x k (by omega) (by omega)]; exact k1 x k (by omega)⟩
  rw [b187_0, b187_2 e1, if_pos (show ¬ zw 1 = 0 by decide), b187_7 e2]
/-- what is laid aside -/
def AsC (g : zH) (D : pD) : Prop := g 202 50 = (dW D : Int) ∧ g 202 51 = (dH D : Int) ∧ ∀ k, k < dN D → zb1 (g 232 k) = (if dT D k = true then 1 else 0) ∧ (dT D k = true → g 233 k = hgt (dF D) (dTl D) k)
theorem zb1_zb1 (z : Int) : zb1 (zb1 z) = zb1 z := by
  unfold zb1
  omega
/-- FringeBenchModel.aside -/
theorem m_asd (hM : McT h 0 A) (hA : wfA A) {p : Nat} (hp : p < aNp A) : ∃ g : zH, Zx 208 0 [zR 202, zI (p : Int), zN] [] (Z0 n) h = some (some (zI 1), Z0 n, g) ∧ AsC g (aPic A p) ∧ frM g h := by
  have wD := hA.2.2.1 p hp
  have hD := wfS_D wD
  have hN := dN25 wD
  obtain ⟨g1, e1, V1, f1, k1⟩ := m_lay2 (n := n) hM hA hp
  have V1w : g1 202 20 = (dW (aPic A p) : Int) := V1.1.1
  have V1h : g1 202 21 = (dH (aPic A p) : Int) := V1.1.2.1
  obtain ⟨g2, e2, i1, i2⟩ := z_inv (N := 25) (X := fun k (u : zH) => Zx 208 16 [zR 202, zN, zI (k : Int)] [] (Z0 n) u) (I := fun k u => (∀ j, j < k → j < dN (aPic A p) → zb1 (u 232 j) = (if dT (aPic A p) j = true then 1 else 0) ∧ (dT (aPic A p) j = true → u 233 j = hgt (dF (aPic A p)) (dTl (aPic A p)) j)) ∧ ∀ x j, x ≠ 232 → x ≠ 233 → u x j = (zu (zu g1 202 50 (dW (aPic A p) : Int)) 202 51 (dH (aPic A p) : Int)) x j) (s := zu (zu g1 202 50 (dW (aPic A p) : Int)) 202 51 (dH (aPic A p) : Int)) ⟨fun j q => absurd q (Nat.not_lt_zero j), fun x j _ _ => rfl⟩ (fun k u hk Iu => by
    obtain ⟨i1, i2⟩ := Iu
    have fr : ∀ x j, x ≠ 202 → x ≠ 232 → x ≠ 233 → u x j = g1 x j := fun x j q1 q2 q3 => by
      rw [i2 x j q2 q3]; (repeat (first | rw [zu_eq] | rw [zu_off (by omega)]))
    have fr2 : ∀ j, j ≠ 50 → j ≠ 51 → u 202 j = g1 202 j := fun j q1 q2 => by
      rw [i2 202 j (by omega) (by omega)]; (repeat (first | rw [zu_eq] | rw [zu_off (by omega)]))
    have Vu : RtD (zu u 232 k (zb1 (u 216 k))) (aPic A p) := by
      have fz : ∀ x j, ((x = 202 ∧ j < 45) ∨ (203 ≤ x ∧ x < 230)) → (zu u 232 k (zb1 (u 216 k))) x j = g1 x j := fun x j q => by
        rw [zu_off (by omega)]
        by_cases c : x = 202
        · subst c; exact fr2 j (by omega) (by omega)
        · exact fr x j c (by omega) (by omega)
      obtain ⟨a, b, c, d, e, f, l, g, x, v⟩ := V1
      exact ⟨a.cg (fun x i q => fz x i (by omega)), b.cg (fun x i q => fz x i (by omega)), c.cg (fun x i q => fz x i (by omega)), fun i hi ti => by rw [fz _ _ (by omega)]; exact d i hi ti, by rw [fz _ _ (by omega)]; exact e, f, l, g, x.cg (fun i => fz _ i (by omega)), fun i hi ti => by rw [fz _ _ (by omega)]; exact v i hi ti⟩
    have st := b208_16 (n := n) (h := u) (l2 := (k : Int)) (by intros; omega) (by intros; omega) (by intros; omega) (by intros; omega) (by intros; omega) (by intros; omega)
    rw [zw_nat (by omega), if_neg (by omega), Int.toNat_natCast, zu_off (x := 232) (y := 216) (by omega)] at st
    by_cases hkN : k < dN (aPic A p)
    · have th := Vu.1.th hkN
      have b216 : zb1 (u 216 k) = if dT (aPic A p) k = true then 1 else 0 := by
        have := (Vu.1.2.2.2.1 k hkN).1
        rw [zu_off (by omega)] at this
        exact this
      by_cases t : dT (aPic A p) k = true
      · rw [b216, if_pos t] at st
        rw [if_neg (show ¬ zw 1 = 0 by decide)] at st
        have mh := m_hgt (n := n) Vu hD hkN t
        rw [b216, if_pos t] at mh
        rw [b208_37 (zcl233 n) (by omega) mh, b208_40 (zcl233 n) (by omega) (by intros; omega) (by intros; omega), Int.toNat_natCast] at st
        refine ⟨_, st, fun j hj hjN => ?_, fun x j q1 q2 => by rw [zu_off (by omega), zu_off (by omega)]; exact i2 x j q1 q2⟩
        by_cases c : j = k
        · subst c
          refine ⟨?_, fun _ => zu_eq⟩
          rw [zu_off (by omega), zu_eq, if_pos t]; decide
        · obtain ⟨a, b⟩ := i1 j (by omega) hjN
          exact ⟨by rw [zu_off (by omega), zu_off (by omega)]; exact a, fun tj => by rw [zu_off (by omega), zu_off (by omega)]; exact b tj⟩
      · rw [b216, if_neg t, if_pos zw0, b208_40 (zcl233 n) (by omega) (by intros; omega) (by intros; omega), Int.toNat_natCast] at st
        refine ⟨_, st, fun j hj hjN => ?_, fun x j q1 q2 => by rw [zu_off (by omega), zu_off (by omega)]; exact i2 x j q1 q2⟩
        by_cases c : j = k
        · subst c
          refine ⟨?_, fun z => absurd z t⟩
          rw [zu_off (by omega), zu_eq, if_neg t]; decide
        · obtain ⟨a, b⟩ := i1 j (by omega) hjN
          exact ⟨by rw [zu_off (by omega), zu_off (by omega)]; exact a, fun tj => by rw [zu_off (by omega), zu_off (by omega)]; exact b tj⟩
    · have b216 : zb1 (u 216 k) = 0 := by
        have := Vu.1.2.2.2.2 k (by omega) hk
        rw [zu_off (by omega)] at this
        exact this
      rw [b216, if_pos zw0, b208_40 (zcl233 n) (by omega) (by intros; omega) (by intros; omega), Int.toNat_natCast] at st
      refine ⟨_, st, fun j hj hjN => ?_, fun x j q1 q2 => by rw [zu_off (by omega), zu_off (by omega)]; exact i2 x j q1 q2⟩
      obtain ⟨a, b⟩ := i1 j (by omega) hjN
      exact ⟨by rw [zu_off (by omega), zu_off (by omega)]; exact a, fun tj => by rw [zu_off (by omega), zu_off (by omega)]; exact b tj⟩)
  refine ⟨g2, ?_, ⟨?_, ?_, fun k hk => i1 k (by omega) hk⟩, fun x k q => ?_⟩
  · rw [b208_0, b208_2 e1, if_pos (show ¬ zw 1 = 0 by decide), V1w, zu_off (by omega), V1h]
    refine e2.trans ?_
    show Zx 208 16 _ _ _ _ = _
    rw [b208_16 (fun q => absurd (by decide) q) (fun q => absurd (by decide) q) (fun q => absurd (by decide) q) (fun q => absurd (by decide) q) (fun q => absurd (by decide) q) (fun q => absurd (by decide) q), if_pos (by decide)]
  · rw [i2 _ _ (by omega) (by omega)]; (repeat (first | rw [zu_eq] | rw [zu_off (by omega)]))
  · rw [i2 _ _ (by omega) (by omega)]; (repeat (first | rw [zu_eq] | rw [zu_off (by omega)]))
  · rw [i2 x k (by omega) (by omega), zu_off (by omega), zu_off (by omega)]; exact f1 x k q
theorem AsC.cg {g g' : zH} {D : pD} (hw : wfD D) (hA : AsC g D) (e : ∀ x k, (229 < x ∨ (x = 202 ∧ 45 ≤ k ∧ k ≤ 53)) → g' x k = g x k) : AsC g' D := ⟨by rw [e _ _ (by omega)]; exact hA.1, by rw [e _ _ (by omega)]; exact hA.2.1, fun k hk => by rw [e _ _ (by omega), e _ _ (by omega)]; exact hA.2.2 k hk⟩
theorem zwN {D : pD} (w : wfD D) : zw ((dW D : Int) * (dH D : Int)) = (dN D : Int) := by
  have := dN25 w
  rw [show (dW D : Int) * (dH D : Int) = (dN D : Int) from (Int.natCast_mul _ _).symm]
  exact zw_nat (by omega)
theorem zwW {D : pD} (w : wfD D) : zw (dW D : Int) = (dW D : Int) := by
  have := w.1
  have := w.2.1
  exact zw_nat (by omega)
/-- FringeBenchModel.stitchBy -/
theorem m_sby {D1 D2 : pD} {dx dy : Int} (w1 : wfD D1) (w2 : wfD D2) (V1 : RtD h D1) (hO : AsC h D2) (hdx : -4 ≤ dx ∧ dx ≤ 4) (hdy : -4 ≤ dy ∧ dy ≤ 4) : ∃ g, Zx 209 0 [zR 202, zI dx, zI dy, zN, zN, zN, zN, zN, zN] [] (Z0 n) h = some (none, Z0 n, g) ∧ g 202 54 = (stS D1 D2 dx dy (dN D2)).1 ∧ g 202 55 = (stS D1 D2 dx dy (dN D2)).2.1 ∧ g 202 56 = (stS D1 D2 dx dy (dN D2)).2.2.2 - (stS D1 D2 dx dy (dN D2)).2.2.1 ∧ ∀ x k, ¬ (x = 202 ∧ 54 ≤ k ∧ k ≤ 56) → g x k = h x k := by
  have n1 := dN25 w1
  have n2 := dN25 w2
  have a1 := w1.1
  have a2 := w1.2.1
  have a3 := w2.1
  have a4 := w2.2.1
  have hD1 := wfS_D w1
  obtain ⟨g1, e1, c54, c55, f1⟩ := z_inv (N := dN D2) (X := fun k (u : zH) => Zx 209 12 [zR 202, zI dx, zI dy, zI (stS D1 D2 dx dy k).2.2.1, zI (stS D1 D2 dx dy k).2.2.2, zI (k : Int), zN, zN, zN] [] (Z0 n) u) (I := fun k u => u 202 54 = (stS D1 D2 dx dy k).1 ∧ u 202 55 = (stS D1 D2 dx dy k).2.1 ∧ ∀ x i, ¬ (x = 202 ∧ 54 ≤ i ∧ i ≤ 56) → u x i = h x i) (s := zu (zu h 202 54 0) 202 55 0) ⟨by (repeat (first | rw [zu_eq] | rw [zu_off (by omega)])) <;> rfl, by rw [zu_eq]; rfl, fun x i q => by rw [zu_off (by omega), zu_off (by omega)]⟩ (fun k u hk Iu => by
    obtain ⟨c54, c55, fr⟩ := Iu
    have Vu : RtD u D1 := by
      obtain ⟨a, b, c, d, e, f, l, g, x, v⟩ := V1
      exact ⟨a.cg (fun x i q => fr x i (by omega)), b.cg (fun x i q => fr x i (by omega)), c.cg (fun x i q => fr x i (by omega)), fun i hi ti => by rw [fr _ _ (by omega)]; exact d i hi ti, by rw [fr _ _ (by omega)]; exact e, f, l, g, x.cg (fun i => fr _ i (by omega)), fun i hi ti => by rw [fr _ _ (by omega)]; exact v i hi ti⟩
    have u50 : u 202 50 = (dW D2 : Int) := by rw [fr _ _ (by omega)]; exact hO.1
    have u51 : u 202 51 = (dH D2 : Int) := by rw [fr _ _ (by omega)]; exact hO.2.1
    have u232 : zb1 (u 232 k) = (if dT D2 k = true then 1 else 0) := by rw [fr _ _ (by omega)]; exact (hO.2.2 k hk).1
    have l1 : k % dW D2 < dW D2 := Nat.mod_lt _ (by omega)
    have l2 : k / dW D2 < dH D2 := Nat.div_lt_of_lt_mul hk
    have si := stS_in w1 w2 (dx := dx) (dy := dy) k (by omega)
    have es : stS D1 D2 dx dy (k + 1) = if stc D1 D2 dx dy k = true then stA (stS D1 D2 dx dy k) (std D1 D2 dx dy k) else stS D1 D2 dx dy k := rfl
    have st := b209_12 (n := n) (h := u) (l1 := dx) (l2 := dy) (l3 := (stS D1 D2 dx dy k).2.2.1) (l4 := (stS D1 D2 dx dy k).2.2.2) (l5 := (k : Int)) (by rw [u50, zwW w2]; intros; omega) (by rw [u50, zwW w2]; intros; omega) (by intros; omega) (by intros; omega)
    rw [u50, u51, zwN w2, zwW w2, zw_nat (n := k) (by omega), if_neg (fun q => by omega), Int.toNat_natCast, u232, show Int.tmod (k : Int) (dW D2 : Int) = ((k % dW D2 : Nat) : Int) from (Int.ofNat_tmod k (dW D2)).symm, show Int.tdiv (k : Int) (dW D2 : Int) = ((k / dW D2 : Nat) : Int) from (Int.ofNat_tdiv k (dW D2)).symm, Vu.1.1] at st
    have same : stc D1 D2 dx dy k = false → Zx 209 12 [zR 202, zI dx, zI dy, zI (stS D1 D2 dx dy k).2.2.1, zI (stS D1 D2 dx dy k).2.2.2, zI (k : Int), zN, zN, zN] [] (Z0 n) u = Zx 209 110 [zR 202, zI dx, zI dy, zI (stS D1 D2 dx dy k).2.2.1, zI (stS D1 D2 dx dy k).2.2.2, zI (k : Int), zN, zN, zN] [] (Z0 n) u → ∃ u', Zx 209 12 [zR 202, zI dx, zI dy, zI (stS D1 D2 dx dy k).2.2.1, zI (stS D1 D2 dx dy k).2.2.2, zI (k : Int), zN, zN, zN] [] (Z0 n) u = Zx 209 12 [zR 202, zI dx, zI dy, zI (stS D1 D2 dx dy (k + 1)).2.2.1, zI (stS D1 D2 dx dy (k + 1)).2.2.2, zI ((k + 1 : Nat) : Int), zN, zN, zN] [] (Z0 n) u' ∧ u' 202 54 = (stS D1 D2 dx dy (k + 1)).1 ∧ u' 202 55 = (stS D1 D2 dx dy (k + 1)).2.1 ∧ ∀ x i, ¬ (x = 202 ∧ 54 ≤ i ∧ i ≤ 56) → u' x i = h x i := fun q e => by
      have es' : stS D1 D2 dx dy (k + 1) = stS D1 D2 dx dy k := by rw [es, q, if_neg (by decide)]
      refine ⟨u, ?_, by rw [es']; exact c54, by rw [es']; exact c55, fr⟩
      rw [e, b209_110, es']
      rfl
    by_cases T2 : dT D2 k = true
    case neg =>
      rw [if_neg T2, if_pos zw0] at st
      refine same ?_ st
      unfold stc
      rw [not_t T2, Bool.and_false]
    rw [if_pos T2, if_neg (show ¬ zw 1 = 0 by decide)] at st
    have hi := s_inz (S := Z0 n) (h := u) (a := ((k % dW D2 : Nat) : Int) + dx) (b := 0) (c := (dW D1 : Int) - 1) ⟨by omega, by omega⟩ ⟨by omega, by omega⟩ ⟨by omega, by omega⟩
    have l3 : (0 : Int) ≤ ((k / dW D2 : Nat) : Int) := Int.natCast_nonneg _
    have hj := s_inz (S := Z0 n) (h := u) (a := ((k / dW D2 : Nat) : Int) + dy) (b := 0) (c := (dH D1 : Int) - 1) ⟨by omega, by omega⟩ ⟨by omega, by omega⟩ ⟨by omega, by omega⟩
    rw [b209_44 hi] at st
    by_cases cx : 0 ≤ ((k % dW D2 : Nat) : Int) + dx ∧ ((k % dW D2 : Nat) : Int) + dx ≤ (dW D1 : Int) - 1
    case neg =>
      rw [if_pos (zif_pos cx)] at st
      refine same ?_ st
      unfold stc
      rw [decide_eq_false (fun z => cx ⟨z.1, by omega⟩), Bool.false_and, Bool.false_and]
    rw [if_neg (zif_neg cx), Vu.1.2.1] at st
    by_cases cy : 0 ≤ ((k / dW D2 : Nat) : Int) + dy ∧ ((k / dW D2 : Nat) : Int) + dy ≤ (dH D1 : Int) - 1
    case neg =>
      rw [b209_52 hj (fun q => absurd (zif_pos cy) q) (fun q => absurd (zif_pos cy) q), if_pos (zif_pos cy)] at st
      refine same ?_ st
      unfold stc
      rw [decide_eq_false (fun z => cy ⟨z.2.2.1, by omega⟩), Bool.false_and, Bool.false_and]
    have cc : 0 ≤ ((k % dW D2 : Nat) : Int) + dx ∧ ((k % dW D2 : Nat) : Int) + dx < dW D1 ∧ 0 ≤ ((k / dW D2 : Nat) : Int) + dy ∧ ((k / dW D2 : Nat) : Int) + dy < dH D1 := ⟨cx.1, by omega, cy.1, by omega⟩
    have il : stI D1 D2 dx dy k < dN D1 := stI_lt cc
    have eI : (((k / dW D2 : Nat) : Int) + dy) * (dW D1 : Int) + (((k % dW D2 : Nat) : Int) + dx) = (stI D1 D2 dx dy k : Int) := by
      unfold stI
      rw [Int.natCast_add, Int.natCast_mul, Int.toNat_of_nonneg cy.1, Int.toNat_of_nonneg cx.1]
    have t1 := Vu.1.th il
    rw [b209_52 hj (by rw [Vu.1.1, eI]; intros; omega) (by rw [Vu.1.1, eI]; intros; omega), if_neg (zif_neg cy), Vu.1.1, eI, Int.toNat_natCast] at st
    by_cases c1 : zw (zb1 (u 216 (stI D1 D2 dx dy k))) = 0
    · rw [if_pos c1] at st
      refine same ?_ st
      unfold stc
      rw [t1.mp c1, Bool.and_false, Bool.false_and]
    have T1 : dT D1 (stI D1 D2 dx dy k) = true := by
      cases q : dT D1 (stI D1 D2 dx dy k)
      · exact absurd (t1.mpr q) c1
      · rfl
    have yes : stc D1 D2 dx dy k = true := by
      unfold stc
      rw [decide_eq_true cc, T1, T2]; rfl
    have di := std_in w1 w2 hk yes
    have u233 : u 233 k = hgt (dF D2) (dTl D2) k := by rw [fr _ _ (by omega)]; exact (hO.2.2 k hk).2 T2
    have ed : hgt (dF D1) (ctl (dN D1) (dW D1) (dT D1) (dF D1) (dG D1)) (stI D1 D2 dx dy k) - hgt (dF D2) (dTl D2) k = std D1 D2 dx dy k := rfl
    have es' : stS D1 D2 dx dy (k + 1) = stA (stS D1 D2 dx dy k) (std D1 D2 dx dy k) := by rw [es, if_pos yes]
    rw [if_neg c1, b209_71 (m_hgt Vu hD1 il T1) (by omega) (by omega), Int.toNat_natCast, u233, ed, c54, zw_id (z := (stS D1 D2 dx dy k).1) (by omega) (by omega), zw_id (z := (stS D1 D2 dx dy k).2.2.1) (by omega) (by omega), zw_id (z := std D1 D2 dx dy k) (by omega) (by omega)] at st
    have low : Zx 209 12 [zR 202, zI dx, zI dy, zI (stS D1 D2 dx dy k).2.2.1, zI (stS D1 D2 dx dy k).2.2.2, zI (k : Int), zN, zN, zN] [] (Z0 n) u = Zx 209 87 [zR 202, zI dx, zI dy, zN, zI (stS D1 D2 dx dy k).2.2.2, zI (k : Int), zN, zN, zI (std D1 D2 dx dy k)] [zI (stA (stS D1 D2 dx dy k) (std D1 D2 dx dy k)).2.2.1] (Z0 n) u := by
      rw [st]
      unfold stA
      (try dsimp only)
      by_cases c : (stS D1 D2 dx dy k).1 = 0
      · rw [if_pos c, if_pos c, b209_84]
      · rw [if_neg c, if_neg c]
        by_cases d : (stS D1 D2 dx dy k).2.2.1 ≤ std D1 D2 dx dy k
        · rw [if_pos d, if_neg (show ¬ std D1 D2 dx dy k < (stS D1 D2 dx dy k).2.2.1 by omega)]
        · rw [if_neg d, if_pos (show std D1 D2 dx dy k < (stS D1 D2 dx dy k).2.2.1 by omega), b209_84]
    have top : Zx 209 12 [zR 202, zI dx, zI dy, zI (stS D1 D2 dx dy k).2.2.1, zI (stS D1 D2 dx dy k).2.2.2, zI (k : Int), zN, zN, zN] [] (Z0 n) u = Zx 209 97 [zR 202, zI dx, zI dy, zI (stA (stS D1 D2 dx dy k) (std D1 D2 dx dy k)).2.2.1, zN, zI (k : Int), zN, zN, zI (std D1 D2 dx dy k)] [zI (stA (stS D1 D2 dx dy k) (std D1 D2 dx dy k)).2.2.2] (Z0 n) u := by
      rw [low, b209_87, c54, zw_id (z := (stS D1 D2 dx dy k).1) (by omega) (by omega), zw_id (z := (stS D1 D2 dx dy k).2.2.2) (by omega) (by omega), zw_id (z := std D1 D2 dx dy k) (by omega) (by omega), b209_94]
      have e2 : (stA (stS D1 D2 dx dy k) (std D1 D2 dx dy k)).2.2.2 = if (stS D1 D2 dx dy k).1 = 0 then std D1 D2 dx dy k else if (stS D1 D2 dx dy k).2.2.2 < std D1 D2 dx dy k then std D1 D2 dx dy k else (stS D1 D2 dx dy k).2.2.2 := rfl
      rw [e2]
      by_cases c : (stS D1 D2 dx dy k).1 = 0
      · rw [if_pos c, if_pos c]
      · rw [if_neg c, if_neg c]
        by_cases d : std D1 D2 dx dy k ≤ (stS D1 D2 dx dy k).2.2.2
        · rw [if_pos d, if_neg (show ¬ (stS D1 D2 dx dy k).2.2.2 < std D1 D2 dx dy k by omega)]
        · rw [if_neg d, if_pos (show (stS D1 D2 dx dy k).2.2.2 < std D1 D2 dx dy k by omega)]
    rw [b209_97, b209_110, zu_off (x := 202) (y := 202) (k := 54) (i := 55) (by omega), c54, c55] at top
    refine ⟨_, by rw [es']; exact top, ?_, ?_, fun x i q => by rw [zu_off (by omega), zu_off (by omega)]; exact fr x i q⟩
    · rw [zu_off (by omega), zu_eq, es']; rfl
    · rw [zu_eq, es']; rfl)
  have u50 : g1 202 50 = (dW D2 : Int) := by rw [f1 _ _ (by omega)]; exact hO.1
  have u51 : g1 202 51 = (dH D2 : Int) := by rw [f1 _ _ (by omega)]; exact hO.2.1
  have eN : (dW D2 : Int) * (dH D2 : Int) = (dN D2 : Int) := (Int.natCast_mul _ _).symm
  refine ⟨zu g1 202 56 ((stS D1 D2 dx dy (dN D2)).2.2.2 - (stS D1 D2 dx dy (dN D2)).2.2.1), ?_, by rw [zu_off (by omega)]; exact c54, by rw [zu_off (by omega)]; exact c55, zu_eq, fun x k q => by rw [zu_off (by omega)]; exact f1 x k q⟩
  rw [b209_0]
  refine e1.trans ?_
  show Zx 209 12 _ _ _ _ = _
  rw [b209_12 (by rw [u50, u51, eN]; intro q; exact absurd (Int.le_refl _) q) (by rw [u50, u51, eN]; intro q; exact absurd (Int.le_refl _) q) (by rw [u50, u51, eN]; intro q; exact absurd (Int.le_refl _) q) (by rw [u50, u51, eN]; intro q; exact absurd (Int.le_refl _) q), u50, u51, eN, if_pos (Int.le_refl _)]
end STJ
