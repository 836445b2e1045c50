/-! QUESTIONS: pixel, height, differ, round, four -/
section OPE
variable {n : Nat} {h : zH} {A : aS}
/-- pixel -/
theorem op_pixel (hA : wfA A) {p k w : Int} (hp : zint p) (hk : zint k) (hw : zint w) : OpI n 114 194 [zR 1, zI p, zI k, zI w, zN] [zR 202, zI p, zI k, zI w] A := by
  by_cases cp : 0 ≤ p ∧ p < aNp A
  case neg =>
    refine ⟨-2, fun h hS => ⟨h, ?_, hS, frC.rf⟩, fun g hM => ⟨zu g 202 0 0, ?_, frM0⟩⟩
    · rw [b114_0, b114_3 (q0 := 5) (c_ipx0 hS hA hp cp) (fun q => absurd zw0 q) (fun q => absurd zw0 q) (fun q => absurd zw0 q) (LX2_5 n), if_pos zw0, b114_10]
    · rw [b194_0, b194_5 (m_han0 (McT0 hM) hA hp cp), if_pos zw0, b194_15]
  obtain ⟨p, rfl, hp'⟩ := nat_of cp
  have np := hA.2.1
  have p3 : p < 3 := by omega
  have wD := hA.2.2.1 p hp'
  have hD := wfS_D wD
  have hN := dN25 wD
  by_cases ck : 0 ≤ k ∧ k < dN (aPic A p)
  case neg =>
    refine ⟨-2, fun h hS => ⟨h, ?_, hS, frC.rf⟩, fun g hM => ?_⟩
    · have ip := c_ipx (n := n) hS hA hp' hk
      rw [if_neg ck] at ip
      rw [b114_0, b114_3 (q0 := 5 + 5 * p) ip (fun q => absurd zw0 q) (fun q => absurd zw0 q) (fun q => absurd zw0 q) (LX2_p p3), if_pos zw0, b114_10]
    · obtain ⟨g1, e1, H1, R1, n1, f1⟩ := m_han (n := n) (McT0 (v := 0) (k := 0) hM) hA hp'
      refine ⟨g1, ?_, f1.tr frM0⟩
      have hi := s_inz (S := Z0 n) (h := g1) (a := k) (b := 0) (c := (dN (aPic A p) : Int) - 1) hk ⟨by omega, by omega⟩ ⟨by omega, by omega⟩
      rw [b194_0, b194_5 e1, if_neg (show ¬ zw 1 = 0 by decide), R1.2.2.1, b194_13 hi, if_neg (fun q => q (zif_pos (by omega))), b194_15]
  obtain ⟨k, rfl, hk'⟩ := nat_of ck
  have k25 : k < 25 := by omega
  refine ⟨if 0 ≤ w ∧ w ≤ 3 then dS (aPic A p) (25 * w.toNat + k) else if w = 4 then dG (aPic A p) k else if w = 5 then ctr (dS (aPic A p)) k else if w = 6 then dF (aPic A p) k else if w = 7 then (if dO (aPic A p) k = true then 1 else 0) else -2, fun h hS => ⟨h, ?_, hS, frC.rf⟩, fun g hM => ?_⟩
  · have ip := c_ipx (n := n) hS hA hp' hk
    rw [if_pos (by omega)] at ip
    have hP := hS.1.2.2.2.1 p hp'
    rw [show 2 + 3 + 5 * p = 5 + 5 * p by omega] at hP
    obtain ⟨P0, P1, P2, P3, P4⟩ := id hP
    obtain ⟨Q1, Q2, Q3⟩ := P4 k k25
    rw [b114_0, b114_3 (q0 := 5 + 5 * p) ip (by intros; omega) (by intros; omega) (fun _ _ _ => pic3 p3) (LX2_p p3), if_neg (show ¬ zw 1 = 0 by decide), hw.e]
    by_cases c1 : w < 0
    · rw [if_pos c1, b114_10, if_neg (by omega), if_neg (by omega), if_neg (by omega), if_neg (by omega), if_neg (by omega)]
    · rw [if_neg c1]
      by_cases c2 : w ≤ 7
      · rw [if_pos c2]
        by_cases c3 : w ≤ 3
        · rw [if_pos (show 0 ≤ w ∧ w ≤ 3 by omega), zfind, if_neg (by omega), zfind, if_neg (by omega), zfind, if_neg (by omega), zfind, if_neg (by omega), zfind]
          refine (Zx_nm (L' := [zN, zN, zI (k : Int), zI w, zR (5 + 5 * p)]) rfl rfl).trans ?_
          rw [b114_44 (LX2_p p3) (by omega) (by omega), show (w * 25 + (k : Int)).toNat = 25 * w.toNat + k by omega, P3 _ (by omega)]
        · rw [if_neg (show ¬ (0 ≤ w ∧ w ≤ 3) by omega)]
          rcases (by omega : w = 4 ∨ w = 5 ∨ w = 6 ∨ w = 7) with e | e | e | e <;> subst e
          · show Zx 114 20 _ _ _ _ = _
            refine (Zx_nm (L' := [zN, zN, zI (k : Int), zN, zR (5 + 5 * p)]) rfl rfl).trans ?_
            rw [b114_20 (LX2_p p3) (by omega) (by omega), Int.toNat_natCast, Q1, if_pos rfl]
          · show Zx 114 25 _ _ _ _ = _
            refine (Zx_nm (L' := [zN, zN, zI (k : Int), zN, zR (5 + 5 * p)]) rfl rfl).trans ?_
            rw [b114_25 (LX2_p p3), b114_27 (LX2_p p3) (s_ctr (LX2_p p3) hP wD k25), if_neg (by decide), if_pos rfl]
          · show Zx 114 29 _ _ _ _ = _
            refine (Zx_nm (L' := [zN, zN, zI (k : Int), zN, zR (5 + 5 * p)]) rfl rfl).trans ?_
            rw [b114_29 (LX2_p p3), P2, b114_33 (LX2_p p3) (s_phs (LX2_p p3) hP wD k25 (by have := wD.2.2.1; exact ⟨by omega, by omega⟩)), if_neg (by decide), if_neg (by decide), if_pos rfl]
          · show Zx 114 35 _ _ _ _ = _
            refine (Zx_nm (L' := [zN, zN, zI (k : Int), zN, zR (5 + 5 * p)]) rfl rfl).trans ?_
            rw [b114_35 (LX2_p p3) (by omega) (by omega), Int.toNat_natCast, Q3, if_neg (show ¬ (7 : Int) = 4 by decide), if_neg (show ¬ (7 : Int) = 5 by decide), if_neg (show ¬ (7 : Int) = 6 by decide), if_pos (show (7 : Int) = 7 from rfl), b114_43, b114_43]
            cases dO (aPic A p) k
            · rw [if_pos (by decide), if_neg (by decide)]
            · rw [if_neg (by decide), if_pos rfl]
      · rw [if_neg c2, b114_10, if_neg (by omega), if_neg (by omega), if_neg (by omega), if_neg (by omega), if_neg (by omega)]
  · obtain ⟨g1, e1, H1, R1, n1, f1⟩ := m_han (n := n) (McT0 (v := 0) (k := 0) hM) hA hp'
    refine ⟨g1, ?_, f1.tr frM0⟩
    have hi := s_inz (S := Z0 n) (h := g1) (a := (k : Int)) (b := 0) (c := (dN (aPic A p) : Int) - 1) hk ⟨by omega, by omega⟩ ⟨by omega, by omega⟩
    have hj := s_inz (S := Z0 n) (h := g1) (a := w) (b := 0) (c := 3) hw ⟨by omega, by omega⟩ ⟨by omega, by omega⟩
    obtain ⟨h1, h2, h3⟩ := H1.2.2.2.2.2 k k25
    rw [b194_0, b194_5 e1, if_neg (show ¬ zw 1 = 0 by decide), R1.2.2.1, b194_13 hi, if_pos (zif_neg (by omega)), b194_20 hj (by intros; omega) (by intros; omega) (by intros; omega) (by intros; omega) (by intros; omega) (by intros; omega) (by intro q; have := zif_of q; omega) (by intro q; have := zif_of q; omega), hw.e, Int.toNat_natCast, h1, (R1.2.2.2.1 k hk').2.1, h3]
    by_cases c3 : 0 ≤ w ∧ w ≤ 3
    · rw [if_neg (zif_neg c3), if_pos c3, show (25 * w + (k : Int)).toNat = 25 * w.toNat + k by omega, H1.2.2.2.2.1 _ (by omega)]
    · rw [if_pos (zif_pos c3), if_neg c3, b194_67, b194_67, b194_67, b194_67, b194_67, b194_44 (m_con (st := dS (aPic A p)) (fun i hi => ⟨H1.2.2.2.2.1 i hi, wD.2.2.2.1 i hi⟩) k25), b194_67]
      by_cases e4 : w = 4
      · rw [if_neg (fun z => z e4), if_pos e4]
      · rw [if_pos e4, if_neg e4]
        by_cases e5 : w = 5
        · rw [if_neg (fun z => z e5), if_pos e5]
        · rw [if_pos e5, if_neg e5]
          by_cases e6 : w = 6
          · rw [if_neg (fun z => z e6), if_pos e6]
          · rw [if_pos e6, if_neg e6]
            by_cases e7 : w = 7
            · rw [if_neg (fun z => z e7), if_pos e7]
              cases dO (aPic A p) k
              · rw [if_pos (by decide), if_neg (by decide)]
              · rw [if_neg (by decide), if_pos rfl]
            · rw [if_pos e7, if_neg e7]
/-- height -/
theorem op_height (hA : wfA A) {p k w : Int} (hp : zint p) (hk : zint k) (hw : zint w) : OpI n 115 196 [zR 1, zI p, zI k, zI w, zN] [zR 202, zI p, zI k, zI w] A := by
  have bad1 : ∀ h, ClS h A → (w < 0 ∨ 4 < w) → Zx 115 0 [zR 1, zI p, zI k, zI w, zN] [] (Z0 n) h = some (some (zI (-1000000)), Z0 n, h) := fun h hS q => by
    rw [b115_0, hw.e]
    by_cases c : w < 0
    · rw [if_pos c, b115_10]
    · rw [if_neg c, if_pos (by omega), b115_10]
  by_cases cp : 0 ≤ p ∧ p < aNp A
  case neg =>
    refine ⟨-1000000, fun h hS => ⟨h, ?_, hS, frC.rf⟩, fun g hM => ⟨zu g 202 0 0, ?_, frM0⟩⟩
    · by_cases d : w < 0 ∨ 4 < w
      · exact bad1 h hS d
      · rw [b115_0, hw.e, if_neg (by omega), if_neg (by omega), b115_8 (c_ith0 hS hA hp cp), if_neg (fun q => q zw0), b115_10]
    · rw [b196_0, b196_5 (m_lay0 (McT0 hM) hA hp cp), if_pos zw0, b196_11]
  obtain ⟨p, rfl, hp'⟩ := nat_of cp
  have np := hA.2.1
  have p3 : p < 3 := by omega
  have wD := hA.2.2.1 p hp'
  have hD := wfS_D wD
  have hN := dN25 wD
  by_cases ck : 0 ≤ k ∧ k < dN (aPic A p) ∧ dT (aPic A p) k.toNat = true
  case neg =>
    refine ⟨-1000000, fun h hS => ?_, fun g hM => ?_⟩
    · by_cases d : w < 0 ∨ 4 < w
      · exact ⟨h, bad1 h hS d, hS, frC.rf⟩
      · obtain ⟨h1, e1, S1, f1⟩ := c_ith (n := n) hS hA hp' hk
        rw [if_neg ck] at e1
        refine ⟨h1, ?_, S1, f1⟩
        rw [b115_0, hw.e, if_neg (by omega), if_neg (by omega), b115_8 e1, if_neg (fun q => q zw0), b115_10]
    · obtain ⟨g1, e1, H1, V1, n1, f1⟩ := m_layP (n := n) (McT0 (v := 0) (k := 0) hM) hA hp'
      refine ⟨g1, ?_, f1.tr frM0⟩
      rw [b196_0, b196_5 e1, if_neg (show ¬ zw 1 = 0 by decide), b196_9 (m_ith V1.1 hD hk), if_neg (fun q => q (zif_pos ck)), b196_11]
  have tk := ck.2.2
  obtain ⟨k, rfl, hk'⟩ := nat_of (m := dN (aPic A p)) ⟨ck.1, ck.2.1⟩
  rw [Int.toNat_natCast] at tk
  have cl : ∀ h, ClS h A → 0 ≤ w → w ≤ 4 → ∃ h1, Zx 115 0 [zR 1, zI (p : Int), zI (k : Int), zI w, zN] [] (Z0 n) h = Zx 115 (zfind w [(0, 18), (1, 24), (2, 29), (3, 34)] 38) [zN, zN, zI (k : Int), zI w, zR (115 + 19 * p)] [] (Z0 n) h1 ∧ SvK h1 (115 + 19 * p) (dW (aPic A p)) (dH (aPic A p)) (dN (aPic A p)) (dT (aPic A p)) (dF (aPic A p)) (dG (aPic A p)) ∧ ClS h1 A ∧ frC h1 h := fun h hS w1 w2 => by
    obtain ⟨h1, e1, S1, f1⟩ := c_ith (n := n) hS hA hp' hk
    rw [if_pos ck] at e1
    obtain ⟨h2, e2, S2, V2, f2⟩ := c_hts (n := n) S1 hA hp'
    refine ⟨h2, ?_, V2, S2, (frC_of f2).tr f1⟩
    rw [b115_0, hw.e, if_neg (by omega), if_neg (by omega), b115_8 e1, if_pos (show ¬ zw 1 = 0 by decide), b115_14 (LX0_p p3) e2, hw.e]
  have mo : ∀ g, McT g 0 A → ∃ g1, Zx 196 0 [zR 202, zI (p : Int), zI (k : Int), zI w] [] (Z0 n) g = Zx 196 (zfind w [(0, 15), (1, 20), (2, 25), (3, 30), (4, 34)] 39) [zR 202, zN, zI (k : Int), zI w] [] (Z0 n) g1 ∧ RtD g1 (aPic A p) ∧ frM g1 g := fun g hM => by
    obtain ⟨g1, e1, H1, V1, n1, f1⟩ := m_layP (n := n) (McT0 (v := 0) (k := 0) hM) hA hp'
    refine ⟨g1, ?_, V1, f1.tr frM0⟩
    rw [b196_0, b196_5 e1, if_neg (show ¬ zw 1 = 0 by decide), b196_9 (m_ith V1.1 hD hk), if_pos (zif_neg ck), hw.e]
  by_cases cw : w < 0 ∨ 4 < w
  · refine ⟨-1000000, fun h hS => ⟨h, bad1 h hS cw, hS, frC.rf⟩, fun g hM => ?_⟩
    obtain ⟨g1, e1, V1, f1⟩ := mo g hM
    refine ⟨g1, ?_, f1⟩
    rw [e1, zfind, if_neg (by omega), zfind, if_neg (by omega), zfind, if_neg (by omega), zfind, if_neg (by omega), zfind, if_neg (by omega), zfind]
    refine (Zx_nm (L' := [zN, zN, zN, zN]) rfl rfl).trans ?_
    rw [b196_39]
  rcases (by omega : w = 0 ∨ w = 1 ∨ w = 2 ∨ w = 3 ∨ w = 4) with e | e | e | e | e <;> subst e
  · refine ⟨pP (dN (aPic A p)) (dW (aPic A p)) (dT (aPic A p)) k, fun h hS => ?_, fun g hM => ?_⟩
    · obtain ⟨h1, e1, V1, S1, f1⟩ := cl h hS (by omega) (by omega)
      refine ⟨h1, ?_, S1, f1⟩
      rw [e1]
      show Zx 115 18 _ _ _ _ = _
      refine (Zx_nm (L' := [zN, zN, zI (k : Int), zN, zR (115 + 19 * p)]) rfl rfl).trans ?_
      rw [b115_18 (LX0_p p3) (by omega) (by omega), Int.toNat_natCast, (V1.pw hk' tk).1]
    · obtain ⟨g1, e1, V1, f1⟩ := mo g hM
      refine ⟨g1, ?_, f1⟩
      rw [e1]
      show Zx 196 15 _ _ _ _ = _
      refine (Zx_nm (L' := [zR 202, zN, zI (k : Int), zN]) rfl rfl).trans ?_
      rw [b196_15 (by omega) (by omega), Int.toNat_natCast, (V1.po hD hk').1, if_pos tk]
  · refine ⟨dTl (aPic A p) k, fun h hS => ?_, fun g hM => ?_⟩
    · obtain ⟨h1, e1, V1, S1, f1⟩ := cl h hS (by omega) (by omega)
      refine ⟨h1, ?_, S1, f1⟩
      rw [e1]
      show Zx 115 24 _ _ _ _ = _
      refine (Zx_nm (L' := [zN, zN, zI (k : Int), zN, zR (115 + 19 * p)]) rfl rfl).trans ?_
      rw [b115_24 (LX0_p p3) (by omega) (by omega), Int.toNat_natCast, (V1.2.2.2 k hk' tk).1]
    · obtain ⟨g1, e1, V1, f1⟩ := mo g hM
      refine ⟨g1, ?_, f1⟩
      rw [e1]
      show Zx 196 20 _ _ _ _ = _
      refine (Zx_nm (L' := [zR 202, zN, zI (k : Int), zN]) rfl rfl).trans ?_
      rw [b196_20 (by omega) (by omega), Int.toNat_natCast, (V1.2.2.2.2.2.2.2.2.1 k hk' tk).1]
  · refine ⟨dTg (aPic A p) k, fun h hS => ?_, fun g hM => ?_⟩
    · obtain ⟨h1, e1, V1, S1, f1⟩ := cl h hS (by omega) (by omega)
      refine ⟨h1, ?_, S1, f1⟩
      rw [e1]
      show Zx 115 29 _ _ _ _ = _
      refine (Zx_nm (L' := [zN, zN, zI (k : Int), zN, zR (115 + 19 * p)]) rfl rfl).trans ?_
      rw [b115_29 (LX0_p p3) (by omega) (by omega), Int.toNat_natCast, (V1.2.2.2 k hk' tk).2.1]
    · obtain ⟨g1, e1, V1, f1⟩ := mo g hM
      refine ⟨g1, ?_, f1⟩
      rw [e1]
      show Zx 196 25 _ _ _ _ = _
      refine (Zx_nm (L' := [zR 202, zN, zI (k : Int), zN]) rfl rfl).trans ?_
      rw [b196_25 (by omega) (by omega), Int.toNat_natCast, (V1.2.2.2.2.2.2.2.2.2 k hk' tk).1]
  · refine ⟨hgt (dF (aPic A p)) (dTl (aPic A p)) k, fun h hS => ?_, fun g hM => ?_⟩
    · obtain ⟨h1, e1, V1, S1, f1⟩ := cl h hS (by omega) (by omega)
      refine ⟨h1, ?_, S1, f1⟩
      rw [e1]
      show Zx 115 34 _ _ _ _ = _
      refine (Zx_nm (L' := [zN, zN, zI (k : Int), zN, zR (115 + 19 * p)]) rfl rfl).trans ?_
      rw [b115_34 (LX0_p p3), b115_36 (LX0_p p3) (s_hgt (LX0_p p3) V1 hD hk' tk)]
    · obtain ⟨g1, e1, V1, f1⟩ := mo g hM
      refine ⟨g1, ?_, f1⟩
      rw [e1]
      show Zx 196 30 _ _ _ _ = _
      refine (Zx_nm (L' := [zR 202, zN, zI (k : Int), zN]) rfl rfl).trans ?_
      rw [b196_30, b196_32 (m_hgt V1 hD hk' tk)]
  · refine ⟨pW (dN (aPic A p)) (dW (aPic A p)) (dT (aPic A p)) (dF (aPic A p)) k, fun h hS => ?_, fun g hM => ?_⟩
    · obtain ⟨h1, e1, V1, S1, f1⟩ := cl h hS (by omega) (by omega)
      refine ⟨h1, ?_, S1, f1⟩
      rw [e1]
      show Zx 115 38 _ _ _ _ = _
      refine (Zx_nm (L' := [zN, zN, zI (k : Int), zN, zR (115 + 19 * p)]) rfl rfl).trans ?_
      rw [b115_38 (LX0_p p3) (by omega) (by omega), Int.toNat_natCast, (V1.pw hk' tk).2]
    · obtain ⟨g1, e1, V1, f1⟩ := mo g hM
      refine ⟨g1, ?_, f1⟩
      rw [e1]
      show Zx 196 34 _ _ _ _ = _
      refine (Zx_nm (L' := [zR 202, zN, zI (k : Int), zN]) rfl rfl).trans ?_
      rw [b196_34 (by omega) (by omega), Int.toNat_natCast, V1.2.2.2.1 k hk' tk]
theorem pdif_zint {a b : Nat} {x y : Int} (h1 : -1 ≤ x ∧ x < 400) (h2 : -1 ≤ y ∧ y < 400) : zint (pdif a b x y) := by
  have := pdif_in (a := a) (b := b) h1 h2
  exact ⟨by omega, by omega⟩
/-- differ -/
theorem op_differ (hA : wfA A) {p a b w : Int} (hp : zint p) (ha : zint a) (hb : zint b) (hw : zint w) : OpI n 116 197 [zR 1, zI p, zI a, zI b, zI w, zN] [zR 202, zI p, zI a, zI b, zI w] A := by
  by_cases cp : 0 ≤ p ∧ p < aNp A
  case neg =>
    refine ⟨-1000000, fun h hS => ⟨h, ?_, hS, frC.rf⟩, fun g hM => ⟨zu g 202 0 0, ?_, frM0⟩⟩
    · rw [b116_0, b116_3 (c_ith0 hS hA hp cp), if_pos zw0, b116_10]
    · rw [b197_0, b197_5 (m_lay0 (McT0 hM) hA hp cp), if_pos zw0, b197_20]
  obtain ⟨p, rfl, hp'⟩ := nat_of cp
  have np := hA.2.1
  have p3 : p < 3 := by omega
  have wD := hA.2.2.1 p hp'
  have hD := wfS_D wD
  have hN := dN25 wD
  by_cases ca : 0 ≤ a ∧ a < dN (aPic A p) ∧ dT (aPic A p) a.toNat = true
  case neg =>
    refine ⟨-1000000, fun h hS => ?_, fun g hM => ?_⟩
    · obtain ⟨h1, e1, S1, f1⟩ := c_ith (n := n) hS hA hp' ha
      rw [if_neg ca] at e1
      exact ⟨h1, by rw [b116_0, b116_3 e1, if_pos zw0, b116_10], S1, f1⟩
    · obtain ⟨g1, e1, H1, V1, n1, f1⟩ := m_layP (n := n) (McT0 (v := 0) (k := 0) hM) hA hp'
      refine ⟨g1, ?_, f1.tr frM0⟩
      rw [b197_0, b197_5 e1, if_neg (show ¬ zw 1 = 0 by decide), b197_9 (m_ith V1.1 hD ha), if_pos (zif_pos ca), b197_20]
  by_cases cb : 0 ≤ b ∧ b < dN (aPic A p) ∧ dT (aPic A p) b.toNat = true
  case neg =>
    refine ⟨-1000000, fun h hS => ?_, fun g hM => ?_⟩
    · obtain ⟨h1, e1, S1, f1⟩ := c_ith (n := n) hS hA hp' ha
      rw [if_pos ca] at e1
      obtain ⟨h2, e2, S2, f2⟩ := c_ith (n := n) S1 hA hp' hb
      rw [if_neg cb] at e2
      exact ⟨h2, by rw [b116_0, b116_3 e1, if_neg (show ¬ zw 1 = 0 by decide), b116_8 e2, if_neg (fun q => q zw0), b116_10], S2, f2.tr f1⟩
    · obtain ⟨g1, e1, H1, V1, n1, f1⟩ := m_layP (n := n) (McT0 (v := 0) (k := 0) hM) hA hp'
      refine ⟨g1, ?_, f1.tr frM0⟩
      rw [b197_0, b197_5 e1, if_neg (show ¬ zw 1 = 0 by decide), b197_9 (m_ith V1.1 hD ha), if_neg (zif_neg ca), b197_13 (m_ith V1.1 hD hb), if_pos (zif_pos cb), b197_20]
  have ta := ca.2.2
  have tb := cb.2.2
  have ca0 := ca
  have cb0 := cb
  obtain ⟨a, rfl, ha'⟩ := nat_of (m := dN (aPic A p)) ⟨ca.1, ca.2.1⟩
  obtain ⟨b, rfl, hb'⟩ := nat_of (m := dN (aPic A p)) ⟨cb.1, cb.2.1⟩
  rw [Int.toNat_natCast] at ta tb
  have cl : ∀ h, ClS h A → ∃ h1, Zx 116 0 [zR 1, zI (p : Int), zI (a : Int), zI (b : Int), zI w, zN] [] (Z0 n) h = (if bsd (dW (aPic A p)) a b = true then (if w = 0 then some (some (zI (pdif a b (dF (aPic A p) a) (dF (aPic A p) b))), Z0 n, h1) else some (some (zI (lea (dF (aPic A p)) (dTl (aPic A p)) a b)), Z0 n, h1)) else some (some (zI (-1000000)), Z0 n, h1)) ∧ ClS h1 A ∧ frC h1 h := fun h hS => by
    obtain ⟨h1, e1, S1, f1⟩ := c_ith (n := n) hS hA hp' ha
    rw [if_pos ca0] at e1
    obtain ⟨h2, e2, S2, f2⟩ := c_ith (n := n) S1 hA hp' hb
    rw [if_pos cb0] at e2
    obtain ⟨h3, e3, S3, V3, f3⟩ := c_hts (n := n) S2 hA hp'
    refine ⟨h3, ?_, S3, (frC_of f3).tr (f2.tr f1)⟩
    have sab := s_abs (S := Z0 n) (LX0_p (n := n) p3).scene V3.sc hD ha' (b := (b : Int)) (by omega)
    have sc := V3.sc
    have bsi := bs_bsd (W := dW (aPic A p)) (H := dH (aPic A p)) (N := dN (aPic A p)) (a := a) (b := b) hD.1 hD.2.2.1 ha'
    have ea := (sc.2.2.2 a ha').2.1
    have eb := (sc.2.2.2 b hb').2.1
    have ra := (hD.2.2.2.2 a ha').1
    have rb := (hD.2.2.2.2 b hb').1
    have sd := s_sdif (S := Z0 n) (h := h3) (LX0_p (n := n) p3).scene (a := a) (b := b) (by omega) (by omega) (by rw [ea]; exact ra.1) (by rw [ea]; exact ra.2) (by rw [eb]; exact rb.1) (by rw [eb]; exact rb.2)
    rw [ea, eb] at sd
    rw [b116_0, b116_3 e1, if_neg (show ¬ zw 1 = 0 by decide), b116_8 e2, if_pos (show ¬ zw 1 = 0 by decide), b116_14 (LX0_p p3) e3, b116_20 (LX0_p p3) (LX0_p p3).scene sab, hw.e, b116_29 (LX0_p p3) (s_lea (LX0_p p3) V3 hD ha' ta hb' tb), b116_35 (LX0_p p3).scene sd, b116_36, b116_36]
    by_cases c : bsd (dW (aPic A p)) a b = true
    · obtain ⟨s, s4, es⟩ := bsi.mp ⟨hb', c⟩
      rw [if_pos c, if_pos]
      refine zif_neg ?_
      rcases (by omega : s = 0 ∨ s = 1 ∨ s = 2 ∨ s = 3) with e | e | e | e <;> subst e
      · exact Or.inl es
      · exact Or.inr (Or.inl es)
      · exact Or.inr (Or.inr (Or.inl es))
      · exact Or.inr (Or.inr (Or.inr es))
    · have nb : ¬ (bs (dW (aPic A p)) (dN (aPic A p)) a 0 = (b : Int) ∨ bs (dW (aPic A p)) (dN (aPic A p)) a 1 = (b : Int) ∨ bs (dW (aPic A p)) (dN (aPic A p)) a 2 = (b : Int) ∨ bs (dW (aPic A p)) (dN (aPic A p)) a 3 = (b : Int)) := fun z => c (bsi.mpr (by
        rcases z with z | z | z | z
        · exact ⟨0, by omega, z⟩
        · exact ⟨1, by omega, z⟩
        · exact ⟨2, by omega, z⟩
        · exact ⟨3, by omega, z⟩)).2
      rw [if_neg c, if_neg (fun q => q (zif_pos nb))]
  have mo : ∀ g, McT g 0 A → ∃ g1, Zx 197 0 [zR 202, zI (p : Int), zI (a : Int), zI (b : Int), zI w] [] (Z0 n) g = (if bsd (dW (aPic A p)) a b = true then (if w = 0 then some (some (zI (pdif a b (dF (aPic A p) a) (dF (aPic A p) b))), Z0 n, g1) else some (some (zI (lea (dF (aPic A p)) (dTl (aPic A p)) a b)), Z0 n, g1)) else some (some (zI (-1000000)), Z0 n, g1)) ∧ frM g1 g := fun g hM => by
    obtain ⟨g1, e1, H1, V1, n1, f1⟩ := m_layP (n := n) (McT0 (v := 0) (k := 0) hM) hA hp'
    refine ⟨g1, ?_, f1.tr frM0⟩
    have pd := pdif_in (a := a) (b := b) (hD.2.2.2.2 a ha').1 (hD.2.2.2.2 b hb').1
    have r1 := V1.hin hD ha' ta
    have r2 := V1.hin hD hb' tb
    have el : Int.tdiv (zw (hgt (dF (aPic A p)) (dTl (aPic A p)) b - hgt (dF (aPic A p)) (dTl (aPic A p)) a - pdif a b (dF (aPic A p) a) (dF (aPic A p) b))) 400 = lea (dF (aPic A p)) (dTl (aPic A p)) a b := by
      have r1' : -500000000 ≤ hgt (dF (aPic A p)) (dTl (aPic A p)) a ∧ hgt (dF (aPic A p)) (dTl (aPic A p)) a ≤ 500000000 := r1
      have r2' : -500000000 ≤ hgt (dF (aPic A p)) (dTl (aPic A p)) b ∧ hgt (dF (aPic A p)) (dTl (aPic A p)) b ≤ 500000000 := r2
      rw [zw_id (by omega) (by omega)]
      have oe := ofv_e (F := dF (aPic A p)) (a := a) (b := b)
      have : hgt (dF (aPic A p)) (dTl (aPic A p)) b - hgt (dF (aPic A p)) (dTl (aPic A p)) a - pdif a b (dF (aPic A p) a) (dF (aPic A p) b) = 400 * lea (dF (aPic A p)) (dTl (aPic A p)) a b := by
        unfold hgt lea
        omega
      rw [this]
      exact Int.mul_tdiv_cancel_left _ (by decide)
    rw [b197_0, b197_5 e1, if_neg (show ¬ zw 1 = 0 by decide), b197_9 (m_ith V1.1 hD ha), if_neg (zif_neg ca0), b197_13 (m_ith V1.1 hD hb), if_neg (zif_neg cb0), b197_18 (m_abs V1.1.1 hD.1 (by omega) (by omega)), hw.e, b197_42 (V1.1.dif hD ha' hb'), b197_43, b197_26 (m_hgt V1 hD hb' tb), b197_29 (m_hgt V1 hD ha' ta), b197_34 (V1.1.dif hD ha' hb'), b197_43, b197_20]
    by_cases c : bsd (dW (aPic A p)) a b = true
    · rw [if_pos (zif_neg c), if_pos c]
      by_cases d : w = 0
      · rw [if_pos d, if_pos d]
      · rw [if_neg d, if_neg d]
        have el' := el
        rw [el']
    · rw [if_neg (fun q => q (zif_pos c)), if_neg c]
  by_cases c : bsd (dW (aPic A p)) a b = true
  · by_cases d : w = 0
    · refine ⟨pdif a b (dF (aPic A p) a) (dF (aPic A p) b), fun h hS => ?_, fun g hM => ?_⟩
      · obtain ⟨h1, e1, S1, f1⟩ := cl h hS
        rw [if_pos c, if_pos d] at e1
        exact ⟨h1, e1, S1, f1⟩
      · obtain ⟨h1, e1, f1⟩ := mo g hM
        rw [if_pos c, if_pos d] at e1
        exact ⟨h1, e1, f1⟩
    · refine ⟨lea (dF (aPic A p)) (dTl (aPic A p)) a b, fun h hS => ?_, fun g hM => ?_⟩
      · obtain ⟨h1, e1, S1, f1⟩ := cl h hS
        rw [if_pos c, if_neg d] at e1
        exact ⟨h1, e1, S1, f1⟩
      · obtain ⟨h1, e1, f1⟩ := mo g hM
        rw [if_pos c, if_neg d] at e1
        exact ⟨h1, e1, f1⟩
  · refine ⟨-1000000, fun h hS => ?_, fun g hM => ?_⟩
    · obtain ⟨h1, e1, S1, f1⟩ := cl h hS
      rw [if_neg c] at e1
      exact ⟨h1, e1, S1, f1⟩
    · obtain ⟨h1, e1, f1⟩ := mo g hM
      rw [if_neg c] at e1
      exact ⟨h1, e1, f1⟩
end OPE
