/-! QUESTIONS: round, four -/
section OPF
variable {n : Nat} {h : zH} {A : aS}
/-- FringeBench.round -/
theorem c_rnd (hS : ClS h A) (hA : wfA A) {p : Nat} (hp : p < aNp A) {x y w v : Int} (hx : zint x) (hy : zint y) (hw : zint w) (hv : zint v) : ∃ h1, Zx 118 0 [zR 1, zI (p : Int), zI x, zI y, zI w, zI v] [] (Z0 n) h = some (some (zI (arn (dW (aPic A p)) (dH (aPic A p)) (dT (aPic A p)) (dF (aPic A p)) x y w v)), Z0 n, h1) ∧ ClS h1 A ∧ frC h1 h := by
  have np := hA.2.1
  have p3 : p < 3 := by omega
  have hD := wfS_D (hA.2.2.1 p hp)
  obtain ⟨h1, e1, S1, V1, f1⟩ := c_hts (n := n) hS hA hp
  refine ⟨h1, ?_, S1, frC_of f1⟩
  rw [b118_0, b118_2 (c_isp1 hS hA hp), if_pos (show ¬ zw 1 = 0 by decide), b118_8 (LX0_p p3) e1, b118_14 (LX0_p p3).scene (s_arn (LX0_p p3).scene V1.sc hD hx hy hw hv)]
theorem c_rnd0 (hS : ClS h A) (hA : wfA A) {p x y w v : Int} (hp : zint p) (hn : ¬ (0 ≤ p ∧ p < aNp A)) : Zx 118 0 [zR 1, zI p, zI x, zI y, zI w, zI v] [] (Z0 n) h = some (some (zI (-100)), Z0 n, h) := by
  rw [b118_0, b118_2 (c_isp0 hS hA hp hn), if_neg (fun q => q zw0)]
/-- the way round in the reference -/
theorem m_rnd {W H N : Nat} {T : Nat → Bool} {F G : Nat → Int} (hR : RfC h W H N T F G) (hD : wfS W H N T F G) {x y w v : Nat} (q : frm W H x y w v) : Zx 224 65 [zR 202, zN, zN, zN, zI (w : Int), zI (v : Int), zI ((y * W + x : Nat) : Int), zI 0, zI 0, zN] [] (Z0 n) h = if ∀ i, i < 2 * (w + v) → T (pA W x y w v (i + 1)) = true then some (some (zI (Int.tdiv (su (fun i => pdif (pA W x y w v i) (pA W x y w v (i + 1)) (F (pA W x y w v i)) (F (pA W x y w v (i + 1)))) (2 * (w + v))) 400)), Z0 n, h) else some (some (zI (-100)), Z0 n, h) := by
  have hww := hD
  obtain ⟨⟨w1, w2⟩, ⟨w3, w4⟩, w5, w6, wk⟩ := hww
  obtain ⟨f1, f2, f3, f4, f5, f6, f7, f8⟩ := q
  have lt : ∀ i, i ≤ 2 * (w + v) → pA W x y w v i < N := fun i hi => by rw [w5]; exact pA_lt (by omega) (by omega) hi
  have lo : ∀ i, i ≤ 2 * (w + v) → -400 * (i : Int) ≤ su (fun i => pdif (pA W x y w v i) (pA W x y w v (i + 1)) (F (pA W x y w v i)) (F (pA W x y w v (i + 1)))) i ∧ su (fun i => pdif (pA W x y w v i) (pA W x y w v (i + 1)) (F (pA W x y w v i)) (F (pA W x y w v (i + 1)))) i ≤ 400 * (i : Int) := by
    intro i
    induction i with
    | zero => intro _; exact ⟨by show _ ≤ (0 : Int); omega, by show (0 : Int) ≤ _; omega⟩
    | succ i ih =>
      intro hi
      have a := ih (by omega)
      have b := pdif_in (a := pA W x y w v i) (b := pA W x y w v (i + 1)) (wk _ (lt i (by omega))).1 (wk _ (lt (i + 1) hi)).1
      rw [su]
      omega
  have step : ∀ i, i < 2 * (w + v) → Zx 224 65 [zR 202, zN, zN, zN, zI (w : Int), zI (v : Int), zI (pA W x y w v i : Int), zI (su (fun i => pdif (pA W x y w v i) (pA W x y w v (i + 1)) (F (pA W x y w v i)) (F (pA W x y w v (i + 1)))) i), zI (i : Int), zN] [] (Z0 n) h = if T (pA W x y w v (i + 1)) = true then Zx 224 65 [zR 202, zN, zN, zN, zI (w : Int), zI (v : Int), zI (pA W x y w v (i + 1) : Int), zI (su (fun i => pdif (pA W x y w v i) (pA W x y w v (i + 1)) (F (pA W x y w v i)) (F (pA W x y w v (i + 1)))) (i + 1)), zI ((i + 1 : Nat) : Int), zN] [] (Z0 n) h else some (some (zI (-100)), Z0 n, h) := by
    intro i hi
    have l1 := lt i (by omega)
    have l2 := lt (i + 1) (by omega)
    have e := pA_step (W := W) (x := x) (y := y) (w := w) (v := v) hi
    have t2 := hR.th l2
    have nx : Zx 224 65 [zR 202, zN, zN, zN, zI (w : Int), zI (v : Int), zI (pA W x y w v i : Int), zI (su (fun i => pdif (pA W x y w v i) (pA W x y w v (i + 1)) (F (pA W x y w v i)) (F (pA W x y w v (i + 1)))) i), zI (i : Int), zN] [] (Z0 n) h = Zx 224 104 [zR 202, zN, zN, zN, zI (w : Int), zI (v : Int), zI (pA W x y w v i : Int), zI (su (fun i => pdif (pA W x y w v i) (pA W x y w v (i + 1)) (F (pA W x y w v i)) (F (pA W x y w v (i + 1)))) i), zI (i : Int), zN] [zI (pA W x y w v (i + 1) : Int)] (Z0 n) h := by
      rw [e, b224_65, zw_id (z := 2 * ((w : Int) + v)) (by omega) (by omega), zw_id (z := (w : Int) + v) (by omega) (by omega), zw_id (z := 2 * (w : Int) + v) (by omega) (by omega), zw_nat (n := i) (by omega), zw_nat (n := w) (by omega), if_neg (by omega), hR.1]
      unfold sA
      by_cases c1 : i < w
      · rw [if_neg (by omega), if_pos c1]
      · rw [if_pos (by omega), if_neg c1]
        by_cases c2 : i < w + v
        · rw [if_neg (by omega), if_pos c2]
        · rw [if_pos (by omega), if_neg c2]
          by_cases c3 : i < 2 * w + v
          · rw [if_neg (by omega), if_pos c3]
            rfl
          · rw [if_pos (by omega), if_neg c3]
            rfl
    rw [nx, b224_104 (by omega) (by omega), Int.toNat_natCast]
    by_cases q2 : T (pA W x y w v (i + 1)) = true
    · rw [if_pos (fun z => by rw [t2.mp z] at q2; cases q2), if_pos q2, b224_116 (hR.dif hD l1 l2)]
      rfl
    · rw [if_neg (fun z => z (t2.mpr (not_t q2))), if_neg q2]
  have i1 : ((y * W + x : Nat) : Int) = ((pA W x y w v 0 : Nat) : Int) := by
    unfold pA
    rw [if_pos (Nat.zero_le _)]; omega
  have ch : ∀ m, m ≤ 2 * (w + v) → (∀ i, i < m → T (pA W x y w v (i + 1)) = true) → Zx 224 65 [zR 202, zN, zN, zN, zI (w : Int), zI (v : Int), zI (pA W x y w v 0 : Int), zI 0, zI 0, zN] [] (Z0 n) h = Zx 224 65 [zR 202, zN, zN, zN, zI (w : Int), zI (v : Int), zI (pA W x y w v m : Int), zI (su (fun i => pdif (pA W x y w v i) (pA W x y w v (i + 1)) (F (pA W x y w v i)) (F (pA W x y w v (i + 1)))) m), zI (m : Int), zN] [] (Z0 n) h := fun m hm hk =>
    z_chain (N := m) (X := fun i => Zx 224 65 [zR 202, zN, zN, zN, zI (w : Int), zI (v : Int), zI (pA W x y w v i : Int), zI (su (fun i => pdif (pA W x y w v i) (pA W x y w v (i + 1)) (F (pA W x y w v i)) (F (pA W x y w v (i + 1)))) i), zI (i : Int), zN] [] (Z0 n) h) (fun i hi => by
      have := step i (by omega)
      rw [if_pos (hk i hi)] at this
      exact this)
  rw [i1]
  by_cases all : ∀ i, i < 2 * (w + v) → T (pA W x y w v (i + 1)) = true
  · rw [ch _ (Nat.le_refl _) all, if_pos all]
    have := lo _ (Nat.le_refl _)
    rw [b224_65, zw_id (z := 2 * ((w : Int) + v)) (by omega) (by omega), zw_nat (by omega), if_pos (by omega), zw_id (by omega) (by omega)]
  · rw [if_neg all]
    rcases fst_cases (fun i => !(T (pA W x y w v (i + 1)))) (2 * (w + v)) with ⟨-, g⟩ | ⟨k, g2, -, g3, g4⟩
    · exact absurd (fun i hi => by have := g i hi; simp at this; exact this) all
    · rw [ch k (by omega) (fun i hi => by have := g4 i hi; simp at this; exact this), step k g2, if_neg (fun z => by simp [z] at g3)]
/-- round -/
theorem op_round (hA : wfA A) {p x y w v : Int} (hp : zint p) (hx : zint x) (hy : zint y) (hw : zint w) (hv : zint v) : OpI n 118 224 [zR 1, zI p, zI x, zI y, zI w, zI v] [zR 202, zI p, zI x, zI y, zI w, zI v, zN, zN, zN, zN] A := by
  by_cases cp : 0 ≤ p ∧ p < aNp A
  case neg =>
    refine ⟨-100, fun h hS => ⟨h, c_rnd0 hS hA hp cp, hS, frC.rf⟩, fun g hM => ⟨zu g 202 0 0, ?_, frM0⟩⟩
    rw [b224_0, b224_5 (m_han0 (McT0 hM) hA hp cp), if_pos zw0, b224_45]
  obtain ⟨p, rfl, hp'⟩ := nat_of cp
  have wD := hA.2.2.1 p hp'
  have hD := wfS_D wD
  refine ⟨arn (dW (aPic A p)) (dH (aPic A p)) (dT (aPic A p)) (dF (aPic A p)) x y w v, fun h hS => c_rnd hS hA hp' hx hy hw hv, fun g hM => ?_⟩
  obtain ⟨g1, e1, H1, R1, n1, f1⟩ := m_han (n := n) (McT0 (v := 0) (k := 0) hM) hA hp'
  refine ⟨g1, ?_, f1.tr frM0⟩
  have w12 := wD.1
  have w34 := wD.2.1
  have hi := s_inz (S := Z0 n) (h := g1) (a := x) (b := 0) (c := (dW (aPic A p) : Int) - 1) hx ⟨by omega, by omega⟩ ⟨by omega, by omega⟩
  have hj := s_inz (S := Z0 n) (h := g1) (a := y) (b := 0) (c := (dH (aPic A p) : Int) - 1) hy ⟨by omega, by omega⟩ ⟨by omega, by omega⟩
  rw [b224_0, b224_5 e1, if_neg (show ¬ zw 1 = 0 by decide), hw.e, hv.e, R1.1]
  unfold arn
  by_cases c1 : w < 1
  · rw [if_pos c1, b224_45, if_neg (fun z => by have := z.1; unfold frm at this; omega)]
  rw [if_neg c1]
  by_cases c2 : v < 1
  · rw [if_pos c2, b224_45, if_neg (fun z => by have := z.1; unfold frm at this; omega)]
  rw [if_neg c2, b224_19 hi]
  by_cases c3 : 0 ≤ x ∧ x ≤ (dW (aPic A p) : Int) - 1
  case neg => rw [if_pos (zif_pos c3), b224_45, if_neg (fun z => by have := z.1; unfold frm at this; omega)]
  rw [if_neg (zif_neg c3), R1.2.1]
  by_cases c4 : 0 ≤ y ∧ y ≤ (dH (aPic A p) : Int) - 1
  case neg =>
    rw [b224_27 hj (fun q => absurd (zif_pos c4) q) (fun q => absurd (zif_pos c4) q), if_pos (zif_pos c4), b224_45, if_neg (fun z => by have := z.1; unfold frm at this; omega)]
  obtain ⟨x, rfl, hx'⟩ := nat_of (m := dW (aPic A p)) (p := x) ⟨c3.1, by omega⟩
  obtain ⟨y, rfl, hy'⟩ := nat_of (m := dH (aPic A p)) (p := y) ⟨c4.1, by omega⟩
  have lt : y * dW (aPic A p) + x < dN (aPic A p) := pix_lt hx' hy'
  have hN := dN25 wD
  have eA : (y : Int) * (dW (aPic A p) : Int) + (x : Int) = ((y * dW (aPic A p) + x : Nat) : Int) := by
    rw [Int.natCast_add, Int.natCast_mul]
  rw [b224_27 hj (by rw [R1.1, eA]; intros; omega) (by rw [R1.1, eA]; intros; omega), if_neg (zif_neg c4), R1.1, R1.2.1, zw_id (z := (dW (aPic A p) : Int) - 1 - (x : Int)) (by omega) (by omega), zw_id (z := (dH (aPic A p) : Int) - 1 - (y : Int)) (by omega) (by omega), hw.e, hv.e]
  by_cases c5 : (dW (aPic A p) : Int) - 1 - (x : Int) < w
  · rw [if_pos c5, b224_45, if_neg (fun z => by have := z.1; unfold frm at this; omega)]
  rw [if_neg c5]
  by_cases c6 : v ≤ (dH (aPic A p) : Int) - 1 - (y : Int)
  case neg => rw [if_neg c6, b224_45, if_neg (fun z => by have := z.1; unfold frm at this; omega)]
  obtain ⟨w, rfl, hw'⟩ := nat_of (m := 5) (p := w) ⟨by omega, by omega⟩
  obtain ⟨v, rfl, hv'⟩ := nat_of (m := 5) (p := v) ⟨by omega, by omega⟩
  have fr : frm (dW (aPic A p)) (dH (aPic A p)) x y w v := by unfold frm; omega
  rw [if_pos c6, eA, Int.toNat_natCast, Int.toNat_natCast, Int.toNat_natCast, Int.toNat_natCast, Int.toNat_natCast]
  have th := R1.th lt
  have p0 : pA (dW (aPic A p)) x y w v 0 = y * dW (aPic A p) + x := by
    unfold pA
    rw [if_pos (Nat.zero_le _)]; omega
  by_cases c7 : zw (zb1 (g1 216 (y * dW (aPic A p) + x))) = 0
  · rw [if_neg (fun z => z c7), if_neg (fun z => by
      have := (z.2 0 (by omega)).1
      rw [p0, th.mp c7] at this
      cases this)]
  · have t0 : dT (aPic A p) (y * dW (aPic A p) + x) = true := by
      cases q : dT (aPic A p) (y * dW (aPic A p) + x)
      · exact absurd (th.mpr q) c7
      · rfl
    rw [if_pos c7, m_rnd R1 hD fr]
    by_cases all : ∀ i, i < 2 * (w + v) → dT (aPic A p) (pA (dW (aPic A p)) x y w v (i + 1)) = true
    · rw [if_pos all, if_pos ⟨fr, fun i hi => ⟨by
        cases i with
        | zero => rw [p0]; exact t0
        | succ i => exact all i (by omega), all i hi⟩⟩]
    · rw [if_neg all, if_neg (fun z => all (fun i hi => (z.2 i hi).2))]
/-- four -/
theorem op_four (hA : wfA A) {p x y : Int} (hp : zint p) (hx : zint x) (hy : zint y) : OpI n 117 198 [zR 1, zI p, zI x, zI y, zN] [zR 202, zI p, zI x, zI y, zN] A := by
  by_cases cp : 0 ≤ p ∧ p < aNp A
  case neg =>
    refine ⟨-2, fun h hS => ⟨h, ?_, hS, frC.rf⟩, fun g hM => ⟨zu g 202 0 0, ?_, frM0⟩⟩
    · rw [b117_0, b117_6 (c_rnd0 hS hA hp cp), if_neg (by decide), b117_14]
    · rw [b198_0, b198_5 (m_han0 (McT0 hM) hA hp cp), if_neg (fun q => q zw0)]
  obtain ⟨p, rfl, hp'⟩ := nat_of cp
  have wD := hA.2.2.1 p hp'
  have hD := wfS_D wD
  have ai := arn_in hD (x := x) (y := y) (w := 1) (v := 1)
  refine ⟨if arn (dW (aPic A p)) (dH (aPic A p)) (dT (aPic A p)) (dF (aPic A p)) x y 1 1 = -100 then -2 else arn (dW (aPic A p)) (dH (aPic A p)) (dT (aPic A p)) (dF (aPic A p)) x y 1 1, fun h hS => ?_, fun g hM => ?_⟩
  · obtain ⟨h1, e1, S1, f1⟩ := c_rnd (n := n) hS hA hp' hx hy (w := 1) (v := 1) ⟨by omega, by omega⟩ ⟨by omega, by omega⟩
    refine ⟨h1, ?_, S1, f1⟩
    rw [b117_0, b117_6 e1, b117_14, b117_14, zw_id (by omega) (by omega)]
    by_cases c : arn (dW (aPic A p)) (dH (aPic A p)) (dT (aPic A p)) (dF (aPic A p)) x y 1 1 = -100
    · rw [if_neg (fun z => z c), if_pos c]
    · rw [if_pos c, if_neg c]
  · obtain ⟨g1, e1, H1, R1, n1, f1⟩ := m_han (n := n) (McT0 (v := 0) (k := 0) hM) hA hp'
    refine ⟨g1, ?_, f1.tr frM0⟩
    have fi := four1_in hD (x := x) (y := y)
    have key : four1 (dW (aPic A p)) (dH (aPic A p)) (dT (aPic A p)) (dF (aPic A p)) x y = -9 ↔ arn (dW (aPic A p)) (dH (aPic A p)) (dT (aPic A p)) (dF (aPic A p)) x y 1 1 = -100 := by
      constructor
      · intro q
        by_cases c : arn (dW (aPic A p)) (dH (aPic A p)) (dT (aPic A p)) (dF (aPic A p)) x y 1 1 = -100
        · exact c
        · exfalso
          rw [arn11] at c
          rw [four1_e hD] at q
          by_cases d : (0 ≤ x ∧ x + 2 ≤ (dW (aPic A p) : Int) ∧ 0 ≤ y ∧ y + 2 ≤ (dH (aPic A p) : Int)) ∧ dT (aPic A p) (y.toNat * dW (aPic A p) + x.toNat) = true ∧ dT (aPic A p) (y.toNat * dW (aPic A p) + x.toNat + 1) = true ∧ dT (aPic A p) (y.toNat * dW (aPic A p) + x.toNat + dW (aPic A p)) = true ∧ dT (aPic A p) (y.toNat * dW (aPic A p) + x.toNat + dW (aPic A p) + 1) = true
          · rw [if_pos d] at q
            have lt : y.toNat * dW (aPic A p) + x.toNat + dW (aPic A p) + 1 < dN (aPic A p) := by
              have := pix_lt (W := dW (aPic A p)) (H := dH (aPic A p)) (x := x.toNat + 1) (y := y.toNat + 1) (by omega) (by omega)
              rw [Nat.succ_mul] at this
              show _ < dW (aPic A p) * dH (aPic A p)
              omega
            clear c d
            have wk := hD.2.2.2.2
            generalize y.toNat * dW (aPic A p) + x.toNat = B at *
            have k0 := (wk B (by omega)).1
            have k1 := (wk (B + 1) (by omega)).1
            have k2 := (wk (B + dW (aPic A p)) (by omega)).1
            have k3 := (wk (B + dW (aPic A p) + 1) (by omega)).1
            have d0 := pdif_in (a := B) (b := B + 1) k0 k1
            have d1 := pdif_in (a := B + 1) (b := B + dW (aPic A p) + 1) k1 k3
            have d2 := pdif_in (a := B + dW (aPic A p) + 1) (b := B + dW (aPic A p)) k3 k2
            have d3 := pdif_in (a := B + dW (aPic A p)) (b := B) k2 k0
            have t4 := td4 (s := pdif B (B + 1) (dF (aPic A p) B) (dF (aPic A p) (B + 1)) + pdif (B + 1) (B + dW (aPic A p) + 1) (dF (aPic A p) (B + 1)) (dF (aPic A p) (B + dW (aPic A p) + 1)) + pdif (B + dW (aPic A p) + 1) (B + dW (aPic A p)) (dF (aPic A p) (B + dW (aPic A p) + 1)) (dF (aPic A p) (B + dW (aPic A p))) + pdif (B + dW (aPic A p)) B (dF (aPic A p) (B + dW (aPic A p))) (dF (aPic A p) B)) (by omega)
            rw [q] at t4
            omega
          · rw [if_neg d] at c
            exact c rfl
      · intro q
        unfold four1
        rw [if_pos q]
    rw [b198_0, b198_5 e1, if_pos (show ¬ zw 1 = 0 by decide), b198_12 (m_fou R1 hD hx hy), b198_20, b198_20, zw_id (z := four1 (dW (aPic A p)) (dH (aPic A p)) (dT (aPic A p)) (dF (aPic A p)) x y) (by omega) (by omega)]
    by_cases c : arn (dW (aPic A p)) (dH (aPic A p)) (dT (aPic A p)) (dF (aPic A p)) x y 1 1 = -100
    · rw [if_neg (fun z => z (key.mpr c)), if_pos c]
    · rw [if_pos (fun z => c (key.mp z)), if_neg c]
      unfold four1
      rw [if_neg c]
end OPF
