/-! THE REFERENCE: hand, lay -/
section HAN
variable {n : Nat} {h : zH} {A : aS}
/-- FringeBenchModel.isPicture -/
theorem m_isp (hM : McT h 0 A) (hA : wfA A) {p : Int} (hp : zint p) : Zx 143 0 [zR 202, zI p] [] (Z0 n) h = some (some (zI (if 0 ≤ p ∧ p < aNp A then 1 else 0)), Z0 n, h) := by
  have np := hA.2.1
  have e : h 207 0 = (aNp A : Int) := hM.2.2.1
  have hi := s_inz (S := Z0 n) (h := h) (a := p) (b := 0) (c := (aNp A : Int) - 1) hp ⟨by omega, by omega⟩ ⟨by omega, by omega⟩
  rw [b143_0, e, b143_8 hi (by split <;> omega)]
  by_cases c : 0 ≤ p ∧ p < aNp A
  · rw [if_pos c, if_pos (by omega)]
  · rw [if_neg c, if_neg (by omega)]
/-- FringeBenchModel.isTest -/
theorem m_ist (hM : McT h 0 A) (hA : wfA A) {p : Int} (hp : zint p) : Zx 144 0 [zR 202, zI p] [] (Z0 n) h = some (some (zI (if 0 ≤ p ∧ p < aNt A then 1 else 0)), Z0 n, h) := by
  have nt := hA.2.2.2.1
  have e : h 207 1 = (aNt A : Int) := hM.2.2.2.2.1
  have hi := s_inz (S := Z0 n) (h := h) (a := p) (b := 0) (c := (aNt A : Int) - 1) hp ⟨by omega, by omega⟩ ⟨by omega, by omega⟩
  rw [b144_0, e, b144_8 hi (by split <;> omega)]
  by_cases c : 0 ≤ p ∧ p < aNt A
  · rw [if_pos c, if_pos (by omega)]
  · rw [if_neg c, if_neg (by omega)]
abbrev HdD (h : zH) (D : pD) : Prop := HdC h (dW D) (dH D) (dL D) (dS D) (dG D) (dP D) (dO D)
abbrev RfD (h : zH) (D : pD) : Prop := RfC h (dW D) (dH D) (dN D) (dT D) (dF D) (dG D)
abbrev RtD (h : zH) (D : pD) : Prop := RtK h (dW D) (dH D) (dN D) (dT D) (dF D) (dG D)
/-- one pixel handed -/
theorem han_px {b k : Nat} {D : pD} (hP : McP h b D) (hb : b ≤ 356) (hk : k < 25) : ∃ g : zH, Zx 162 41 [zR 202, zN, zI (b : Int), zI (k : Int), zN] [] (Z0 n) h = Zx 162 41 [zR 202, zN, zI (b : Int), zI ((k + 1 : Nat) : Int), zN] [] (Z0 n) g ∧ g 212 k = dG D k ∧ g 213 k = dP D k ∧ zb1 (g 214 k) = (if dO D k = true then 1 else 0) ∧ (∀ i, i < 4 → g 211 (25 * i + k) = dS D (25 * i + k)) ∧ (∀ x j, (x = 212 ∨ x = 213 ∨ x = 214) → j ≠ k → g x j = h x j) ∧ (∀ j, (∀ i, i < 4 → j ≠ 25 * i + k) → g 211 j = h 211 j) ∧ ∀ x j, (x < 211 ∨ 214 < x) → g x j = h x j := by
  obtain ⟨p1, p2, p3, p4, p5⟩ := hP
  obtain ⟨q1, q2, q3⟩ := p5 k hk
  have t1 : (((b : Int) + 103) + (k : Int)).toNat = b + 103 + k := by omega
  have t2 : (((b : Int) + 128) + (k : Int)).toNat = b + 128 + k := by omega
  have t3 : (((b : Int) + 153) + (k : Int)).toNat = b + 153 + k := by omega
  have st := b162_41 (n := n) (h := h) (l2 := (b : Int)) (l3 := (k : Int)) (by intros; omega) (by intros; omega) (by intros; omega) (by intros; omega) (by intros; omega) (by intros; omega) (by intros; omega) (by intros; omega) (by intros; omega) (by intros; omega)
  rw [zw_nat (by omega), if_neg (by omega), Int.toNat_natCast, t1, t2, t3] at st
  (repeat (first | rw [zu_eq] at st | rw [zu_off (by omega)] at st))
  rw [q1, q2, q3] at st
  have e84 : Zx 162 41 [zR 202, zN, zI (b : Int), zI (k : Int), zN] [] (Z0 n) h = Zx 162 87 [zR 202, zN, zI (b : Int), zI (k : Int), zI 0] [] (Z0 n) (zu (zu (zu h 212 k (dG D k)) 213 k (dP D k)) 214 k (if dO D k = true then 1 else 0)) := by
    cases c : dO D k
    · rw [c, if_pos (by decide), b162_84 (zcl214 n) (by omega) (by intros; omega) (by intros; omega), Int.toNat_natCast] at st
      exact st
    · rw [c, if_neg (by decide), b162_84 (zcl214 n) (by omega) (by intros; omega) (by intros; omega), Int.toNat_natCast] at st
      exact st
  obtain ⟨g, e, i1, i2, i3⟩ := z_inv (N := 4) (X := fun i (g : zH) => Zx 162 87 [zR 202, zN, zI (b : Int), zI (k : Int), zI (i : Int)] [] (Z0 n) g) (I := fun i g => (∀ j, j < i → g 211 (25 * j + k) = dS D (25 * j + k)) ∧ (∀ j, (∀ i, i < 4 → j ≠ 25 * i + k) → g 211 j = h 211 j) ∧ ∀ x j, x ≠ 211 → g x j = (zu (zu (zu h 212 k (dG D k)) 213 k (dP D k)) 214 k (if dO D k = true then 1 else 0)) x j) (s := zu (zu (zu h 212 k (dG D k)) 213 k (dP D k)) 214 k (if dO D k = true then 1 else 0)) ⟨fun j q => absurd q (Nat.not_lt_zero j), fun j _ => by (repeat (first | rw [zu_eq] | rw [zu_off (by omega)])), fun x j _ => rfl⟩ (fun i g hi Ig => by
    obtain ⟨i1, i2, i3⟩ := Ig
    have t4 : (((25 : Int) * (i : Int)) + (k : Int)).toNat = 25 * i + k := by omega
    have t5 : ((((b : Int) + 3) + (25 * (i : Int))) + (k : Int)).toNat = b + 3 + (25 * i + k) := by omega
    refine ⟨zu g 211 (25 * i + k) (dS D (25 * i + k)), ?_, fun j hj => ?_, fun j hj => ?_, fun x j q => ?_⟩
    · show Zx 162 87 _ _ _ _ = Zx 162 87 _ _ _ _
      have e208 : g 208 (b + 3 + (25 * i + k)) = dS D (25 * i + k) := by
        rw [i3 _ _ (by omega)]
        (repeat (first | rw [zu_eq] | rw [zu_off (by omega)]))
        exact p4 _ (by omega)
      rw [b162_87 (by intros; omega) (by intros; omega) (by intros; omega) (by intros; omega), zw_nat (by omega), if_neg (by omega), t4, t5, e208]
      rfl
    · by_cases c : j = i
      · rw [c, zu_eq]
      · rw [zu_off (by omega)]; exact i1 j (by omega)
    · have := hj i hi
      rw [zu_off (by omega)]; exact i2 j hj
    · rw [zu_off (by omega)]; exact i3 x j q)
  refine ⟨g, ?_, ?_, ?_, ?_, i1, fun x j q1 q2 => ?_, i2, fun x j q => ?_⟩
  · rw [e84]
    refine e.trans ?_
    show Zx 162 87 _ _ _ _ = _
    rw [b162_87 (fun q => absurd (by decide) q) (fun q => absurd (by decide) q) (fun q => absurd (by decide) q) (fun q => absurd (by decide) q), if_pos (by decide)]
    rfl
  · rw [i3 _ _ (by omega)]; (repeat (first | rw [zu_eq] | rw [zu_off (by omega)]))
  · rw [i3 _ _ (by omega)]; (repeat (first | rw [zu_eq] | rw [zu_off (by omega)]))
  · rw [i3 _ _ (by omega), zu_eq]; split <;> decide
  · rw [i3 _ _ (by omega)]; (repeat (first | rw [zu_eq] | rw [zu_off (by omega)]))
  · rw [i3 _ _ (by omega)]; (repeat (first | rw [zu_eq] | rw [zu_off (by omega)]))
/-- FringeBenchModel.hand -/
theorem m_han (hM : McT h 0 A) (hA : wfA A) {p : Nat} (hp : p < aNp A) : ∃ g : zH, Zx 162 0 [zR 202, zI (p : Int), zN, zN, zN] [] (Z0 n) h = some (some (zI 1), Z0 n, g) ∧ HdD g (aPic A p) ∧ RfD g (aPic A p) ∧ g 202 30 = cnT (dN (aPic A p)) (dT (aPic A p)) ∧ frM g h := by
  have np := hA.2.1
  have hD := hA.2.2.1 p hp
  have hP := hM.2.2.2.1 p hp
  rw [show 534 * 0 + 178 * p = 178 * p by omega] at hP
  have ip := m_isp (n := n) hM hA (p := (p : Int)) ⟨by omega, by omega⟩
  rw [if_pos (by omega)] at ip
  obtain ⟨p1, p2, p3, -, -⟩ := id hP
  have t0 : ((178 : Int) * (p : Int)).toNat = 178 * p := by omega
  have t1 : (((178 : Int) * (p : Int)) + 1).toNat = 178 * p + 1 := by omega
  have t2 : (((178 : Int) * (p : Int)) + 2).toNat = 178 * p + 2 := by omega
  have st := b162_2 (n := n) (h := h) (l1 := (p : Int)) ip (by intros; omega) (by intros; omega) (by intros; omega) (by intros; omega) (by intros; omega) (by intros; omega)
  rw [if_pos (show ¬ zw 1 = 0 by decide), t0, t1, t2] at st
  (repeat (first | rw [zu_eq] at st | rw [zu_off (by omega)] at st))
  rw [p1, p2, p3] at st
  generalize hg0 : zu (zu (zu (zu h 202 20 (dW (aPic A p) : Int)) 202 21 (dH (aPic A p) : Int)) 202 22 (dL (aPic A p))) 202 23 ((dW (aPic A p) : Int) * (dH (aPic A p) : Int)) = g0 at st
  have f0 : ∀ x k, x ≠ 202 → g0 x k = h x k := fun x k q => by
    rw [← hg0]; (repeat (first | rw [zu_eq] | rw [zu_off (by omega)]))
  have c20 : g0 202 20 = (dW (aPic A p) : Int) := by rw [← hg0]; (repeat (first | rw [zu_eq] | rw [zu_off (by omega)]))
  have c21 : g0 202 21 = (dH (aPic A p) : Int) := by rw [← hg0]; (repeat (first | rw [zu_eq] | rw [zu_off (by omega)]))
  have c22 : g0 202 22 = dL (aPic A p) := by rw [← hg0]; (repeat (first | rw [zu_eq] | rw [zu_off (by omega)]))
  have c23 : g0 202 23 = ((dN (aPic A p) : Nat) : Int) := by rw [← hg0, zu_eq, Int.natCast_mul]
  obtain ⟨g1, e1, i1, i2, i3⟩ := z_inv (N := 25) (X := fun k (g : zH) => Zx 162 41 [zR 202, zN, zI ((178 * p : Nat) : Int), zI (k : Int), zN] [] (Z0 n) g) (I := fun k g => (∀ j, j < k → g 212 j = dG (aPic A p) j ∧ g 213 j = dP (aPic A p) j ∧ zb1 (g 214 j) = if dO (aPic A p) j = true then 1 else 0) ∧ (∀ j i, j < k → i < 4 → g 211 (25 * i + j) = dS (aPic A p) (25 * i + j)) ∧ ∀ x j, (x < 211 ∨ 214 < x) → g x j = g0 x j) (s := g0) ⟨fun j q => absurd q (Nat.not_lt_zero j), fun j i q _ => absurd q (Nat.not_lt_zero j), fun x j _ => rfl⟩ (fun k g hk Ig => by
    obtain ⟨i1, i2, i3⟩ := Ig
    have hPg : McP g (178 * p) (aPic A p) := by
      obtain ⟨d1, d2, d3, d4, d5⟩ := hP
      have e : ∀ j, g 208 j = h 208 j := fun j => by rw [i3 _ _ (by omega)]; exact f0 _ _ (by omega)
      refine ⟨by rw [e]; exact d1, by rw [e]; exact d2, by rw [e]; exact d3, fun k hk => by rw [e]; exact d4 k hk, fun k hk => ?_⟩
      rw [e, e, e]
      exact d5 k hk
    obtain ⟨g', e, a1, a2, a3, a4, a5, a6, a7⟩ := han_px (n := n) hPg (by omega) hk
    refine ⟨g', e, fun j hj => ?_, fun j i hj hi => ?_, fun x j q => by rw [a7 x j q]; exact i3 x j q⟩
    · by_cases c : j = k
      · rw [c]; exact ⟨a1, a2, a3⟩
      · rw [a5 _ _ (Or.inl rfl) c, a5 _ _ (Or.inr (Or.inl rfl)) c, a5 _ _ (Or.inr (Or.inr rfl)) c]
        exact i1 j (by omega)
    · by_cases c : j = k
      · rw [c]; exact a4 i hi
      · rw [a6 _ (fun i' hi' => by omega)]
        exact i2 j i (by omega) hi)
  have hH : HdD g1 (aPic A p) := by
    refine ⟨by rw [i3 _ _ (by omega)]; exact c20, by rw [i3 _ _ (by omega)]; exact c21, by rw [i3 _ _ (by omega)]; exact c22, by rw [i3 _ _ (by omega)]; exact c23, fun k hk => ?_, fun k hk => i1 k hk⟩
    have := i2 (k % 25) (k / 25) (by omega) (by omega)
    rw [show 25 * (k / 25) + k % 25 = k by omega] at this
    exact this
  obtain ⟨g2, e2, H2, R2, n2, -, f2⟩ := m_fph (n := n) hH hD
  refine ⟨g2, ?_, H2, R2, n2, fun x k q => ?_⟩
  · rw [b162_0, st, show ((178 : Int) * (p : Int)) = ((178 * p : Nat) : Int) by omega]
    refine e1.trans ?_
    show Zx 162 41 _ _ _ _ = _
    rw [b162_41 (fun q => absurd (by decide) q) (fun q => absurd (by decide) q) (fun q => absurd (by decide) q) (fun q => absurd (by decide) q) (fun q => absurd (by decide) q) (fun q => absurd (by decide) q) (fun q => absurd (by decide) q) (fun q => absurd (by decide) q) (fun q => absurd (by decide) q) (fun q => absurd (by decide) q), if_pos (by decide), b162_115 e2]
  · rw [f2 x k (by omega) (by omega) (by omega), i3 x k (by omega)]
    exact f0 x k (by omega)
theorem m_han0 (hM : McT h 0 A) (hA : wfA A) {p : Int} (hp : zint p) (hn : ¬ (0 ≤ p ∧ p < aNp A)) : Zx 162 0 [zR 202, zI p, zN, zN, zN] [] (Z0 n) h = some (some (zI 0), Z0 n, h) := by
  have ip := m_isp (n := n) hM hA (p := p) hp
  rw [if_neg hn] at ip
  rw [b162_0, b162_2 ip (fun q => absurd zw0 q) (fun q => absurd zw0 q) (fun q => absurd zw0 q) (fun q => absurd zw0 q) (fun q => absurd zw0 q) (fun q => absurd zw0 q), if_neg (fun q => q zw0)]
/-- FringeBenchModel.lay -/
theorem m_layP (hM : McT h 0 A) (hA : wfA A) {p : Nat} (hp : p < aNp A) : ∃ g : zH, Zx 187 0 [zR 202, zI (p : Int)] [] (Z0 n) h = some (some (zI 1), Z0 n, g) ∧ HdD g (aPic A p) ∧ RtD g (aPic A p) ∧ g 202 30 = cnT (dN (aPic A p)) (dT (aPic A p)) ∧ frM g h := by
  have hD := hA.2.2.1 p hp
  obtain ⟨g1, e1, H1, R1, n1, f1⟩ := m_han (n := n) hM hA hp
  obtain ⟨g2, z, tl, tg, e2, V2, f2⟩ := m_ftu (n := n) R1 (wfS_D hD)
  refine ⟨g2, ?_, H1.cg (fun x k q => f2 x k (by omega) (by omega)), V2.cn (wfS_D hD), by rw [f2 _ _ (by omega) (by omega)]; exact n1, fun x k q => by rw [f2 x k (by omega) (by omega)]; exact f1 x k q⟩
  rw [b187_0, b187_2 e1, if_pos (show ¬ zw 1 = 0 by decide), b187_7 e2]
theorem m_lay0 (hM : McT h 0 A) (hA : wfA A) {p : Int} (hp : zint p) (hn : ¬ (0 ≤ p ∧ p < aNp A)) : Zx 187 0 [zR 202, zI p] [] (Z0 n) h = some (some (zI 0), Z0 n, h) := by
  rw [b187_0, b187_2 (m_han0 hM hA hp hn), if_neg (fun q => q zw0)]
end HAN
