/-! THE REFERENCE: fours -/
section RFO
variable {n : Nat} {h : zH} {W H N : Nat} {T : Nat → Bool} {F G : Nat → Int}
theorem RfC.th (hR : RfC h W H N T F G) {k : Nat} (hk : k < N) : zw (zb1 (h 216 k)) = 0 ↔ T k = false := by
  rw [(hR.2.2.2.1 k hk).1]
  cases T k
  · simp [zw0]
  · simp [zw1]
theorem RfC.dif (hR : RfC h W H N T F G) (hw : wfS W H N T F G) {a b : Nat} (ha : a < N) (hb : b < N) : Zx 167 0 [zR 202, zI (a : Int), zI (b : Int), zN] [] (Z0 n) h = some (some (zI (pdif a b (F a) (F b))), Z0 n, h) := by
  have e1 := (hR.2.2.2.1 a ha).2.1
  have e2 := (hR.2.2.2.1 b hb).2.1
  have r1 := (hw.2.2.2.2 a ha).1
  have r2 := (hw.2.2.2.2 b hb).1
  have hN := hw.2.2.2.1
  rw [m_dif (n := n) (h := h) (a := a) (b := b) (by omega) (by omega) (by omega) (by omega) (by omega) (by omega), e1, e2]
theorem arn11 {x y : Int} : arn W H T F x y 1 1 = if (0 ≤ x ∧ x + 2 ≤ W ∧ 0 ≤ y ∧ y + 2 ≤ H) ∧ T (y.toNat * W + x.toNat) = true ∧ T (y.toNat * W + x.toNat + 1) = true ∧ T (y.toNat * W + x.toNat + W) = true ∧ T (y.toNat * W + x.toNat + W + 1) = true then Int.tdiv (pdif (y.toNat * W + x.toNat) (y.toNat * W + x.toNat + 1) (F (y.toNat * W + x.toNat)) (F (y.toNat * W + x.toNat + 1)) + pdif (y.toNat * W + x.toNat + 1) (y.toNat * W + x.toNat + W + 1) (F (y.toNat * W + x.toNat + 1)) (F (y.toNat * W + x.toNat + W + 1)) + pdif (y.toNat * W + x.toNat + W + 1) (y.toNat * W + x.toNat + W) (F (y.toNat * W + x.toNat + W + 1)) (F (y.toNat * W + x.toNat + W)) + pdif (y.toNat * W + x.toNat + W) (y.toNat * W + x.toNat) (F (y.toNat * W + x.toNat + W)) (F (y.toNat * W + x.toNat))) 400 else -100 := by
  have p0 : pA W x.toNat y.toNat 1 1 0 = y.toNat * W + x.toNat := by unfold pA; rw [if_pos (by omega)]; omega
  have p1 : pA W x.toNat y.toNat 1 1 1 = y.toNat * W + x.toNat + 1 := by unfold pA; rw [if_pos (by omega)]
  have p2 : pA W x.toNat y.toNat 1 1 2 = y.toNat * W + x.toNat + W + 1 := by
    unfold pA
    rw [if_neg (by omega), if_pos (by omega), show y.toNat + (2 - 1) = y.toNat + 1 by omega, Nat.succ_mul]
    omega
  have p3 : pA W x.toNat y.toNat 1 1 3 = y.toNat * W + x.toNat + W := by
    unfold pA
    rw [if_neg (by omega), if_neg (by omega), if_pos (by omega), Nat.succ_mul]
    omega
  have p4 : pA W x.toNat y.toNat 1 1 4 = y.toNat * W + x.toNat := by
    unfold pA
    rw [if_neg (by omega), if_neg (by omega), if_neg (by omega), show y.toNat + (2 * 1 + 2 * 1 - 4) = y.toNat by omega]
  unfold arn
  by_cases c : (0 ≤ x ∧ x + 2 ≤ W ∧ 0 ≤ y ∧ y + 2 ≤ H) ∧ T (y.toNat * W + x.toNat) = true ∧ T (y.toNat * W + x.toNat + 1) = true ∧ T (y.toNat * W + x.toNat + W) = true ∧ T (y.toNat * W + x.toNat + W + 1) = true
  · rw [if_pos c]
    obtain ⟨c0, c1, c2, c3, c4⟩ := c
    rw [if_pos ⟨by unfold frm; omega, fun i hi => by
      have hi4 : i < 4 := hi
      show T (pA W x.toNat y.toNat 1 1 i) = true ∧ T (pA W x.toNat y.toNat 1 1 (i + 1)) = true
      rcases (by omega : i = 0 ∨ i = 1 ∨ i = 2 ∨ i = 3) with e | e | e | e <;> subst e
      · rw [p0, p1]; exact ⟨c1, c2⟩
      · rw [p1, p2]; exact ⟨c2, c4⟩
      · rw [p2, p3]; exact ⟨c4, c3⟩
      · rw [p3, p4]; exact ⟨c3, c1⟩⟩]
    show Int.tdiv (su (fun i => pdif (pA W x.toNat y.toNat 1 1 i) (pA W x.toNat y.toNat 1 1 (i + 1)) (F (pA W x.toNat y.toNat 1 1 i)) (F (pA W x.toNat y.toNat 1 1 (i + 1)))) 4) 400 = _
    rw [su, su, su, su, su]
    show Int.tdiv (0 + pdif (pA W x.toNat y.toNat 1 1 0) (pA W x.toNat y.toNat 1 1 1) (F (pA W x.toNat y.toNat 1 1 0)) (F (pA W x.toNat y.toNat 1 1 1)) + pdif (pA W x.toNat y.toNat 1 1 1) (pA W x.toNat y.toNat 1 1 2) (F (pA W x.toNat y.toNat 1 1 1)) (F (pA W x.toNat y.toNat 1 1 2)) + pdif (pA W x.toNat y.toNat 1 1 2) (pA W x.toNat y.toNat 1 1 3) (F (pA W x.toNat y.toNat 1 1 2)) (F (pA W x.toNat y.toNat 1 1 3)) + pdif (pA W x.toNat y.toNat 1 1 3) (pA W x.toNat y.toNat 1 1 4) (F (pA W x.toNat y.toNat 1 1 3)) (F (pA W x.toNat y.toNat 1 1 4))) 400 = _
    rw [p0, p1, p2, p3, p4, Int.zero_add]
  · rw [if_neg c, if_neg]
    rintro ⟨q, qk⟩
    refine c ⟨by unfold frm at q; omega, ?_⟩
    have q0 := qk 0 (by show 0 < 4; omega)
    have q2 := qk 2 (by show 2 < 4; omega)
    have q0' : T (pA W x.toNat y.toNat 1 1 0) = true ∧ T (pA W x.toNat y.toNat 1 1 1) = true := q0
    have q2' : T (pA W x.toNat y.toNat 1 1 2) = true ∧ T (pA W x.toNat y.toNat 1 1 3) = true := q2
    rw [p0, p1] at q0'
    rw [p2, p3] at q2'
    exact ⟨q0'.1, q0'.2, q2'.2, q2'.1⟩
def four1 (W H : Nat) (T : Nat → Bool) (F : Nat → Int) (x y : Int) : Int := if arn W H T F x y 1 1 = -100 then -9 else arn W H T F x y 1 1
theorem td4 {s : Int} (h : -1600 ≤ s ∧ s ≤ 1600) : -4 ≤ Int.tdiv s 400 ∧ Int.tdiv s 400 ≤ 4 := by
  have c := Int.natAbs_tdiv s 400
  have d : ∀ n : Nat, Nat.div n (Int.natAbs 400) = n / 400 := fun n => rfl
  rw [d] at c
  omega
theorem four1_e (hw : wfS W H N T F G) {x y : Int} : four1 W H T F x y = if (0 ≤ x ∧ x + 2 ≤ W ∧ 0 ≤ y ∧ y + 2 ≤ H) ∧ T (y.toNat * W + x.toNat) = true ∧ T (y.toNat * W + x.toNat + 1) = true ∧ T (y.toNat * W + x.toNat + W) = true ∧ T (y.toNat * W + x.toNat + W + 1) = true then Int.tdiv (pdif (y.toNat * W + x.toNat) (y.toNat * W + x.toNat + 1) (F (y.toNat * W + x.toNat)) (F (y.toNat * W + x.toNat + 1)) + pdif (y.toNat * W + x.toNat + 1) (y.toNat * W + x.toNat + W + 1) (F (y.toNat * W + x.toNat + 1)) (F (y.toNat * W + x.toNat + W + 1)) + pdif (y.toNat * W + x.toNat + W + 1) (y.toNat * W + x.toNat + W) (F (y.toNat * W + x.toNat + W + 1)) (F (y.toNat * W + x.toNat + W)) + pdif (y.toNat * W + x.toNat + W) (y.toNat * W + x.toNat) (F (y.toNat * W + x.toNat + W)) (F (y.toNat * W + x.toNat))) 400 else -9 := by
  have ww := hw
  obtain ⟨⟨w1, w2⟩, ⟨w3, w4⟩, w5, w6, wk⟩ := ww
  unfold four1
  rw [arn11]
  by_cases c : (0 ≤ x ∧ x + 2 ≤ W ∧ 0 ≤ y ∧ y + 2 ≤ H) ∧ T (y.toNat * W + x.toNat) = true ∧ T (y.toNat * W + x.toNat + 1) = true ∧ T (y.toNat * W + x.toNat + W) = true ∧ T (y.toNat * W + x.toNat + W + 1) = true
  · rw [if_pos c, if_pos c]
    have lt : y.toNat * W + x.toNat + W + 1 < N := by
      have := pix_lt (W := W) (H := H) (x := x.toNat + 1) (y := y.toNat + 1) (by omega) (by omega)
      rw [Nat.succ_mul] at this
      omega
    clear c
    generalize y.toNat * W + x.toNat = A at *
    have k0 := (wk A (by omega)).1
    have k1 := (wk (A + 1) (by omega)).1
    have k2 := (wk (A + W) (by omega)).1
    have k3 := (wk (A + W + 1) (by omega)).1
    have d0 := pdif_in (a := A) (b := A + 1) k0 k1
    have d1 := pdif_in (a := A + 1) (b := A + W + 1) k1 k3
    have d2 := pdif_in (a := A + W + 1) (b := A + W) k3 k2
    have d3 := pdif_in (a := A + W) (b := A) k2 k0
    have t4 := td4 (s := pdif A (A + 1) (F A) (F (A + 1)) + pdif (A + 1) (A + W + 1) (F (A + 1)) (F (A + W + 1)) + pdif (A + W + 1) (A + W) (F (A + W + 1)) (F (A + W)) + pdif (A + W) A (F (A + W)) (F A)) (by omega)
    rw [if_neg (by omega)]
  · rw [if_neg c, if_pos rfl, if_neg c]
/-- FringeBenchModel.fourAt -/
theorem m_fou (hR : RfC h W H N T F G) (hw : wfS W H N T F G) {x y : Int} (hx : zint x) (hy : zint y) : Zx 168 0 [zR 202, zI x, zI y, zN, zN] [] (Z0 n) h = some (some (zI (four1 W H T F x y)), Z0 n, h) := by
  have hh := hR
  obtain ⟨a1, a2, a3, a4, a5⟩ := hh
  have ww := hw
  obtain ⟨⟨w1, w2⟩, ⟨w3, w4⟩, w5, w6, wk⟩ := ww
  rw [four1_e hw, b168_0, a1, b168_6 s_in, zw0, hx.e, zw_id (z := (W : Int) - 2) (by omega) (by omega)]
  by_cases q1 : 0 ≤ x ∧ x ≤ (W : Int) - 2
  case neg =>
    rw [if_neg q1, if_pos zw0, b168_16]
    rw [if_neg (fun z => q1 ⟨z.1.1, by have := z.1.2.1; omega⟩)]
  rw [if_pos q1, if_neg (show ¬ zw 1 = 0 by decide), a2]
  obtain ⟨x, rfl⟩ : ∃ a : Nat, x = a := ⟨x.toNat, by omega⟩
  by_cases q2 : 0 ≤ y ∧ y ≤ (H : Int) - 2
  case neg =>
    have s := s_in (S := Z0 n) (h := h) (a := y) (b := 0) (c := (H : Int) - 2)
    rw [zw0, hy.e, zw_id (z := (H : Int) - 2) (by omega) (by omega), if_neg q2] at s
    rw [b168_14 s (by intros z; exact absurd zw0 z) (by intros z; exact absurd zw0 z) (by intros z; exact absurd zw0 z) (by intros z; exact absurd zw0 z) (by intros z; exact absurd zw0 z) (by intros z; exact absurd zw0 z) (by intros z; exact absurd zw0 z) (by intros z; exact absurd zw0 z), if_neg (fun z => z zw0), b168_16]
    rw [if_neg (fun z => q2 ⟨z.1.2.2.1, by have := z.1.2.2.2; omega⟩)]
  obtain ⟨y, rfl⟩ : ∃ a : Nat, y = a := ⟨y.toNat, by omega⟩
  have s := s_in (S := Z0 n) (h := h) (a := (y : Int)) (b := 0) (c := (H : Int) - 2)
  rw [zw0, hy.e, zw_id (z := (H : Int) - 2) (by omega) (by omega), if_pos q2] at s
  have lt : y * W + x + W + 1 < N := by
    have := pix_lt (W := W) (H := H) (x := x + 1) (y := y + 1) (by omega) (by omega)
    rw [Nat.succ_mul] at this
    omega
  rw [Int.toNat_natCast, Int.toNat_natCast]
  have eA : (y : Int) * (W : Int) + (x : Int) = ((y * W + x : Nat) : Int) := by
    rw [Int.natCast_add, Int.natCast_mul]
  generalize y * W + x = A at *
  have n1 : ((A : Int) + 1).toNat = A + 1 := by omega
  have n2 : ((A : Int) + (W : Int)).toNat = A + W := by omega
  have n3 : ((A : Int) + (W : Int) + 1).toNat = A + W + 1 := by omega
  rw [b168_14 s (by rw [a1, eA]; intros; omega) (by rw [a1, eA]; intros; omega) (by rw [a1, eA]; intros; omega) (by rw [a1, eA]; intros; omega) (by rw [a1, eA]; intros; omega) (by rw [a1, eA]; intros; omega) (by rw [a1, eA]; intros; omega) (by rw [a1, eA]; intros; omega), if_pos (show ¬ zw 1 = 0 by decide), a1, eA, Int.toNat_natCast, n1, n2, n3]
  have t0 := hR.th (k := A) (by omega)
  have t1 := hR.th (k := A + 1) (by omega)
  have t2 := hR.th (k := A + W) (by omega)
  have t3 := hR.th (k := A + W + 1) (by omega)
  have nt : ∀ k, ¬ (zw (zb1 (h 216 k)) = 0) → (zw (zb1 (h 216 k)) = 0 ↔ T k = false) → T k = true := fun k q1 q2 => by
    cases z : T k
    · exact absurd (q2.mpr z) q1
    · rfl
  by_cases c0 : zw (zb1 (h 216 A)) = 0
  · rw [if_pos c0, b168_54, if_neg (fun z => by rw [t0.mp c0] at z; exact Bool.noConfusion z.2.1)]
  rw [if_neg c0]
  by_cases c1 : zw (zb1 (h 216 (A + 1))) = 0
  · rw [if_pos c1, b168_54, if_neg (fun z => by rw [t1.mp c1] at z; exact Bool.noConfusion z.2.2.1)]
  rw [if_neg c1]
  by_cases c2 : zw (zb1 (h 216 (A + W))) = 0
  · rw [if_pos c2, b168_54, if_neg (fun z => by rw [t2.mp c2] at z; exact Bool.noConfusion z.2.2.2.1)]
  rw [if_neg c2]
  by_cases c3 : zw (zb1 (h 216 (A + W + 1))) = 0
  · rw [if_neg (fun z => z c3), b168_54, if_neg (fun z => by rw [t3.mp c3] at z; exact Bool.noConfusion z.2.2.2.2)]
  rw [if_pos c3]
  rw [if_pos (show (0 ≤ (x : Int) ∧ (x : Int) + 2 ≤ W ∧ 0 ≤ (y : Int) ∧ (y : Int) + 2 ≤ H) ∧ T A = true ∧ T (A + 1) = true ∧ T (A + W) = true ∧ T (A + W + 1) = true from ⟨by omega, nt _ c0 t0, nt _ c1 t1, nt _ c2 t2, nt _ c3 t3⟩)]
  have k0 := (wk A (by omega)).1
  have k1 := (wk (A + 1) (by omega)).1
  have k2 := (wk (A + W) (by omega)).1
  have k3 := (wk (A + W + 1) (by omega)).1
  have e1 : (A : Int) + 1 = ((A + 1 : Nat) : Int) := by omega
  have e2 : (A : Int) + (W : Int) = ((A + W : Nat) : Int) := by omega
  have e3 : ((A + W : Nat) : Int) + 1 = ((A + W + 1 : Nat) : Int) := by omega
  rw [e1, b168_61 (hR.dif hw (by omega) (by omega)), e2, e3, e1, b168_69 (hR.dif hw (by omega) (by omega)), e3, b168_76 (hR.dif hw (by omega) (by omega)), b168_81 (hR.dif hw (by omega) (by omega))]
  have d0 := pdif_in (a := A) (b := A + 1) k0 k1
  have d1 := pdif_in (a := A + 1) (b := A + W + 1) k1 k3
  have d2 := pdif_in (a := A + W + 1) (b := A + W) k3 k2
  have d3 := pdif_in (a := A + W) (b := A) k2 k0
  rw [zw_id (by omega) (by omega)]
theorem four1_in (hw : wfS W H N T F G) {x y : Int} : -100 ≤ four1 W H T F x y ∧ four1 W H T F x y ≤ 100 := by
  have := arn_in hw (x := x) (y := y) (w := 1) (v := 1)
  unfold four1
  split <;> omega
/-- FringeBenchModel.foursThat -/
theorem m_fot (hR : RfC h W H N T F G) (hw : wfS W H N T F G) {kind : Int} (hk : zint kind) : Zx 169 0 [zR 202, zI kind, zN, zN, zN] [] (Z0 n) h = some (some (zI (su (fun y => su (fun x => if four1 W H T F (x : Int) (y : Int) = kind then 1 else 0) (W - 1)) (H - 1))), Z0 n, h) := by
  have hh := hR
  obtain ⟨s0, s1, a3, a4, a5⟩ := hh
  have ww := hw
  obtain ⟨⟨w1, w2⟩, ⟨w3, w4⟩, w5, w6, wk⟩ := ww
  rw [b169_0]
  refine (z_chain (N := H - 1) (X := fun j => Zx 169 4 [zR 202, zI kind, zI (su (fun y => su (fun x => if four1 W H T F (x : Int) (y : Int) = kind then 1 else 0) (W - 1)) j), zI (j : Int), zN] [] (Z0 n) h) (fun j hj => ?_)).trans ?_
  · show Zx 169 4 _ _ _ _ = Zx 169 4 _ _ _ _
    rw [b169_4, s1, zw_id (by omega) (by omega), zw_nat (by omega), if_neg (by omega)]
    have e := z_chain (N := W - 1) (X := fun i => Zx 169 12 [zR 202, zI kind, zI (su (fun y => su (fun x => if four1 W H T F (x : Int) (y : Int) = kind then 1 else 0) (W - 1)) j + su (fun x => if four1 W H T F (x : Int) (j : Int) = kind then 1 else 0) i), zI (j : Int), zI (i : Int)] [] (Z0 n) h) (fun i hi => by
      have ar := four1_in hw (x := (i : Int)) (y := (j : Int))
      show Zx 169 12 _ _ _ _ = Zx 169 12 _ _ _ _
      rw [b169_12, s0, zw_id (by omega) (by omega), zw_nat (by omega), if_neg (by omega), b169_22 (m_fou hR hw (x := (i : Int)) (y := (j : Int)) ⟨by omega, by omega⟩ ⟨by omega, by omega⟩), zw_id (z := four1 W H T F (i : Int) (j : Int)) (by omega) (by omega), hk.e, b169_28, b169_28]
      by_cases q : four1 W H T F (i : Int) (j : Int) = kind
      · rw [if_neg (fun z => z q), su, if_pos q, ← Int.add_assoc]; rfl
      · rw [if_pos q, su, if_neg q]; (try simp only [Int.add_zero]) <;> rfl)
    have e0 : su (fun y => su (fun x => if four1 W H T F (x : Int) (y : Int) = kind then 1 else 0) (W - 1)) j + su (fun x => if four1 W H T F (x : Int) (j : Int) = kind then (1 : Int) else 0) 0 = su (fun y => su (fun x => if four1 W H T F (x : Int) (y : Int) = kind then 1 else 0) (W - 1)) j := Int.add_zero _
    rw [e0] at e
    refine Eq.trans e ?_
    rw [b169_12, s0, zw_id (by omega) (by omega), zw_nat (by omega), if_pos (by omega)]
    rfl
  · show Zx 169 4 _ _ _ _ = _
    rw [b169_4, s1, zw_id (by omega) (by omega), zw_nat (by omega), if_pos (by omega)]
theorem four1_cf {kind : Int} (hk : kind ≠ -9 ∧ kind ≠ -100) : su (fun y => su (fun x => if four1 W H T F (x : Int) (y : Int) = kind then 1 else 0) (W - 1)) (H - 1) = cf W H T F kind := by
  unfold cf
  refine su_congr (fun y _ => su_congr (fun x _ => ?_))
  unfold four1
  by_cases c : arn W H T F (x : Int) (y : Int) 1 1 = -100
  · rw [if_pos c, if_neg (by omega), if_neg (by omega)]
  · rw [if_neg c]
end RFO
