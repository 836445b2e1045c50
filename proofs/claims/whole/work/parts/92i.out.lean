/-! QUESTIONS: out -/
section OPI2
variable {n : Nat} {h : zH} {A : aS}
noncomputable abbrev dTlk (D : pD) (k : Nat) : Nat → Int := ctl (dN D) (dW D) (dTk D k) (dF D) (dG D)
def rtk (D : pD) (k i : Nat) : Nat := (fst (fun j => dTk D k j && decide (pP (dN D) (dW D) (dTk D k) j = pP (dN D) (dW D) (dTk D k) i)) (dN D)).toNat
noncomputable def mvX (D : pD) (k i : Nat) : Int := hgt (dF D) (dTlk D k) i - hgt (dF D) (dTlk D k) (rtk D k i)
noncomputable def mvY (D : pD) (k i : Nat) : Int := hgt (dF D) (dTl D) i - hgt (dF D) (dTl D) (rtk D k i)
theorem rtk_e {D : pD} {k i : Nat} (hi : i < dN D) (ti : dTk D k i = true) : fst (fun j => dTk D k j && decide (pP (dN D) (dW D) (dTk D k) j = pP (dN D) (dW D) (dTk D k) i)) (dN D) = (rtk D k i : Int) ∧ rtk D k i < dN D ∧ dTk D k (rtk D k i) = true := by
  obtain ⟨r, r1, r2, r3⟩ := rt_of (W := dW D) (T := dTk D k) hi ti
  have : rtk D k i = r := by
    unfold rtk
    rw [r1, Int.toNat_natCast]
  rw [this]
  exact ⟨r1, r2, r3⟩
theorem dTk_T {D : pD} {k i : Nat} (ti : dTk D k i = true) : dT D i = true := by
  unfold dTk at ti
  rw [Bool.and_eq_true] at ti
  exact ti.1
/-- FringeBench.countMoved -/
theorem c_mov {D : pD} {o o' k : Nat} (hw : wfD D) (hL : LX0 (Z0 n) o) (hL' : LX0 (Z0 n) o') (hV : SvK h o (dW D) (dH D) (dN D) (dTk D k) (dF D) (dG D)) (hB : SvK h o' (dW D) (dH D) (dN D) (dT D) (dF D) (dG D)) : Zx 125 0 [zR o, zR o', zN, zN, zN] [] (Z0 n) h = some (some (zI (su (fun i => if dTk D k i = true ∧ mvX D k i ≠ mvY D k i then 1 else 0) (dN D))), Z0 n, h) := by
  have hN := dN25 hw
  have hD := wfS_D hw
  have hK := wfS_k hw (k := k)
  have e2 : h (o + 1) 2 = (dN D : Int) := hV.sc.2.2.1
  rw [b125_0 hL hL']
  refine (z_chain (N := dN D) (X := fun i => Zx 125 4 [zR o, zR o', zI (su (fun i => if dTk D k i = true ∧ mvX D k i ≠ mvY D k i then 1 else 0) i), zI (i : Int), zN] [] (Z0 n) h) (fun i hi => ?_)).trans ?_
  · show Zx 125 4 _ _ _ _ = Zx 125 4 _ _ _ _
    have th := hV.sc.th hi
    rw [b125_4 hL hL' (by intros; omega) (by intros; omega) (by intros; omega) (by intros; omega), e2, zw_nat (by omega), zw_nat (by omega), if_neg (by omega), Int.toNat_natCast]
    by_cases c : zw (zb1 (h (o + 1 + 1) i)) = 0
    · rw [if_pos c, b125_43 hL hL', su, if_neg (show ¬ (dTk D k i = true ∧ _) from fun q => by rw [th.mp c] at q; exact Bool.noConfusion q.1)]
      rw [Int.add_zero]
      rfl
    · have ti : dTk D k i = true := by
        cases q : dTk D k i
        · exact absurd (th.mpr q) c
        · rfl
      obtain ⟨r1, r2, r3⟩ := rtk_e hi ti
      have pi := pP_in hK hi ti
      have lp := s_lpo (S := Z0 n) hL.scene hV.sc hD.2.2.2.1 (pf := pP (dN D) (dW D) (dTk D k)) (p := pP (dN D) (dW D) (dTk D k) i) (fun j hj tj => ⟨(hV.pw hj tj).1, by have := pP_in hK hj tj; omega, by have := pP_in hK hj tj; omega⟩) (by omega)
      rw [r1] at lp
      have a1 := hV.hin hK hi ti
      have a2 := hV.hin hK r2 r3
      have a3 := hB.hin hD hi (dTk_T ti)
      have a4 := hB.hin hD r2 (dTk_T r3)
      have x1 : -100000000 ≤ mvX D k i ∧ mvX D k i ≤ 100000000 := by
        show -100000000 ≤ hgt (dF D) (ctl (dN D) (dW D) (dTk D k) (dF D) (dG D)) i - hgt (dF D) (ctl (dN D) (dW D) (dTk D k) (dF D) (dG D)) (rtk D k i) ∧ hgt (dF D) (ctl (dN D) (dW D) (dTk D k) (dF D) (dG D)) i - hgt (dF D) (ctl (dN D) (dW D) (dTk D k) (dF D) (dG D)) (rtk D k i) ≤ 100000000
        omega
      have y1 : -100000000 ≤ mvY D k i ∧ mvY D k i ≤ 100000000 := by
        show -100000000 ≤ hgt (dF D) (ctl (dN D) (dW D) (dT D) (dF D) (dG D)) i - hgt (dF D) (ctl (dN D) (dW D) (dT D) (dF D) (dG D)) (rtk D k i) ∧ hgt (dF D) (ctl (dN D) (dW D) (dT D) (dF D) (dG D)) i - hgt (dF D) (ctl (dN D) (dW D) (dT D) (dF D) (dG D)) (rtk D k i) ≤ 100000000
        omega
      have e5 : h (o + 5) i = pP (dN D) (dW D) (dTk D k) i := (hV.pw hi ti).1
      rw [if_neg c, e5, b125_22 hL hL' hL.scene lp, zw_nat (n := rtk D k i) (by omega), if_neg (by omega), b125_29 hL hL' hL (s_hgt hL hV hK hi ti), b125_32 hL hL' hL (s_hgt hL hV hK r2 r3), b125_36 hL hL' hL' (s_hgt hL' hB hD hi (dTk_T ti)), b125_39 hL hL' hL' (s_hgt hL' hB hD r2 (dTk_T r3))]
      have ex : hgt (dF D) (ctl (dN D) (dW D) (dTk D k) (dF D) (dG D)) i - hgt (dF D) (ctl (dN D) (dW D) (dTk D k) (dF D) (dG D)) (rtk D k i) = mvX D k i := rfl
      have ey : hgt (dF D) (ctl (dN D) (dW D) (dT D) (dF D) (dG D)) i - hgt (dF D) (ctl (dN D) (dW D) (dT D) (dF D) (dG D)) (rtk D k i) = mvY D k i := rfl
      rw [ex, ey, zw_id (z := mvX D k i) (by omega) (by omega), zw_id (z := mvY D k i) (by omega) (by omega), b125_43 hL hL', b125_43 hL hL', su]
      by_cases d : mvX D k i = mvY D k i
      · rw [if_pos d, if_neg (fun q => q.2 d), Int.add_zero]; rfl
      · rw [if_neg d, if_pos ⟨ti, d⟩]; rfl
  · show Zx 125 4 _ _ _ _ = _
    rw [b125_4 hL hL' (by rw [e2]; intro q; exact absurd (Int.le_refl _) q) (by rw [e2]; intro q; exact absurd (Int.le_refl _) q) (by rw [e2]; intro q; exact absurd (Int.le_refl _) q) (by rw [e2]; intro q; exact absurd (Int.le_refl _) q), e2, if_pos (Int.le_refl _)]
/-- out -/
theorem op_out (hA : wfA A) {p k w : Int} (hp : zint p) (hk : zint k) (hw : zint w) : OpI n 124 206 [zR 1, zI p, zI k, zI w, zN] [zR 202, zI p, zI k, zI w, zN, zN, zN, zN] A := by
  by_cases cp : 0 ≤ p ∧ p < aNp A
  case neg =>
    refine ⟨-1, fun h hS => ⟨h, ?_, hS, frC.rf⟩, fun g hM => ⟨zu g 202 0 0, ?_, frM0⟩⟩
    · rw [b124_0, b124_3 (c_ith0 hS hA hp cp), if_neg (fun q => q zw0)]
    · rw [b206_0, b206_5 (m_lay0 (McT0 hM) hA hp cp), if_pos zw0, b206_11]
  obtain ⟨p, rfl, hp'⟩ := nat_of cp
  have np := hA.2.1
  have p3 : p < 3 := by omega
  have wD := hA.2.2.1 p hp'
  have hD := wfS_D wD
  have hN := dN25 wD
  by_cases ck : 0 ≤ k ∧ k < dN (aPic A p) ∧ dT (aPic A p) k.toNat = true
  case neg =>
    refine ⟨-1, fun h hS => ?_, fun g hM => ?_⟩
    · obtain ⟨h1, e1, S1, f1⟩ := c_ith (n := n) hS hA hp' hk
      rw [if_neg ck] at e1
      exact ⟨h1, by rw [b124_0, b124_3 e1, if_neg (fun q => q zw0)], S1, f1⟩
    · obtain ⟨g1, e1, H1, V1, n1, f1⟩ := m_layP (n := n) (McT0 (v := 0) (k := 0) hM) hA hp'
      refine ⟨g1, ?_, f1.tr frM0⟩
      rw [b206_0, b206_5 e1, if_neg (show ¬ zw 1 = 0 by decide), b206_9 (m_ith V1.1 hD hk), if_neg (fun q => q (zif_pos ck)), b206_11]
  have tk := ck.2.2
  have ck0 := ck
  obtain ⟨k, rfl, hk'⟩ := nat_of (m := dN (aPic A p)) ⟨ck.1, ck.2.1⟩
  rw [Int.toNat_natCast] at tk
  have hK := wfS_k wD (k := k)
  have mo : ∀ g, McT g 0 A → ∃ g2, Zx 206 0 [zR 202, zI (p : Int), zI (k : Int), zI w, zN, zN, zN, zN] [] (Z0 n) g = (if ¬ w = 0 then Zx 206 47 [zR 202, zN, zN, zN, zN, zI 0, zI 0, zN] [] (Z0 n) g2 else some (some (zI (cZk (aPic A p) k)), Z0 n, g2)) ∧ RtK g2 (dW (aPic A p)) (dH (aPic A p)) (dN (aPic A p)) (dTk (aPic A p) k) (dF (aPic A p)) (dG (aPic A p)) ∧ (∀ i, i < dN (aPic A p) → dT (aPic A p) i = true → g2 231 i = hgt (dF (aPic A p)) (dTl (aPic A p)) i ∧ -500000000 ≤ hgt (dF (aPic A p)) (dTl (aPic A p)) i ∧ hgt (dF (aPic A p)) (dTl (aPic A p)) i ≤ 500000000) ∧ frM g2 g := fun g hM => by
    obtain ⟨g1, e1, H1, V1, n1, f1⟩ := m_layP (n := n) (McT0 (v := 0) (k := 0) hM) hA hp'
    have e23 := V1.1.2.2.1
    obtain ⟨g2, e2, i1, i2⟩ := z_inv (N := dN (aPic A p)) (X := fun i (u : zH) => Zx 206 15 [zR 202, zN, zI (k : Int), zI w, zI (i : Int), zN, zN, zN] [] (Z0 n) u) (I := fun i u => (∀ j, j < i → dT (aPic A p) j = true → u 231 j = hgt (dF (aPic A p)) (dTl (aPic A p)) j) ∧ ∀ x j, x ≠ 231 → u x j = g1 x j) (s := g1) ⟨fun j q => absurd q (Nat.not_lt_zero j), fun x j _ => rfl⟩ (fun i u hi Iu => by
      have Vu : RtD u (aPic A p) := by
        obtain ⟨a, b, c, d, e, f, l, g, x, v⟩ := V1
        exact ⟨a.cg (fun x i q => Iu.2 x i (by omega)), b.cg (fun x i q => Iu.2 x i (by omega)), c.cg (fun x i q => Iu.2 x i (by omega)), fun i hi ti => by rw [Iu.2 _ _ (by omega)]; exact d i hi ti, by rw [Iu.2 _ _ (by omega)]; exact e, f, l, g, x.cg (fun i => Iu.2 _ i (by omega)), fun i hi ti => by rw [Iu.2 _ _ (by omega)]; exact v i hi ti⟩
      have th := Vu.1.th hi
      have st := b206_15 (n := n) (h := u) (l2 := (k : Int)) (l3 := w) (l4 := (i : Int)) (by intros; omega) (by intros; omega)
      rw [Vu.1.2.2.1, zw_nat (by omega), zw_nat (by omega), if_neg (by omega), Int.toNat_natCast] at st
      by_cases c : zw (zb1 (u 216 i)) = 0
      · rw [if_pos c, b206_32 (zcl231 n) (by omega) (by intros; omega) (by intros; omega), Int.toNat_natCast] at st
        refine ⟨_, st, fun j hj tj => ?_, fun x j q => by rw [zu_off (by omega)]; exact Iu.2 x j q⟩
        have : j ≠ i := fun z => by rw [z, th.mp c] at tj; cases tj
        rw [zu_off (by omega)]
        exact Iu.1 j (by omega) tj
      · have ti : dT (aPic A p) i = true := by
          cases q : dT (aPic A p) i
          · exact absurd (th.mpr q) c
          · rfl
        rw [if_neg c, b206_29 (zcl231 n) (by omega) (m_hgt Vu hD hi ti), b206_32 (zcl231 n) (by omega) (by intros; omega) (by intros; omega), Int.toNat_natCast] at st
        refine ⟨_, st, fun j hj tj => ?_, fun x j q => by rw [zu_off (by omega)]; exact Iu.2 x j q⟩
        by_cases q : j = i
        · rw [q, zu_eq]
        · rw [zu_off (by omega)]; exact Iu.1 j (by omega) tj)
    have H2 : HdD g2 (aPic A p) := H1.cg (fun x i q => i2 x i (by omega))
    have c23 : g2 202 23 = (dN (aPic A p) : Int) := by rw [i2 _ _ (by omega)]; exact e23
    obtain ⟨g3, e3, V3, f3, k3⟩ := m_cou (n := n) H2 wD hk'
    refine ⟨g3, ?_, V3, fun i hi ti => ⟨by rw [k3]; exact i1 i hi ti, V1.hin hD hi ti⟩, fun x i q => by rw [f3 x i q, i2 x i (by omega), f1 x i q]; exact frM0 x i q⟩
    rw [b206_0, b206_5 e1, if_neg (show ¬ zw 1 = 0 by decide), b206_9 (m_ith V1.1 hD hk), if_pos (zif_neg ck0)]
    refine e2.trans ?_
    show Zx 206 15 _ _ _ _ = _
    rw [b206_15 (by rw [c23]; intro q; exact absurd (Int.le_refl _) q) (by rw [c23]; intro q; exact absurd (Int.le_refl _) q), c23, if_pos (Int.le_refl _), b206_37 e3, hw.e]
  by_cases cw : w = 0
  · refine ⟨cZk (aPic A p) k, fun h hS => ?_, fun g hM => ?_⟩
    · obtain ⟨h1, e1, S1, f1⟩ := c_ith (n := n) hS hA hp' hk
      rw [if_pos ck0] at e1
      obtain ⟨h2, e2, f2⟩ := c_cwo (n := n) S1 hA hp' hk'
      refine ⟨h2, ?_, S1.cg hA (fun x i q => f2 x i (by omega)), fun x i q => by rw [f2 x i (by omega)]; exact f1 x i q⟩
      rw [b124_0, b124_3 e1, if_pos (show ¬ zw 1 = 0 by decide), hw.e, if_neg (fun q => q cw), b124_12 e2]
    · obtain ⟨g2, e2, V2, o2, f2⟩ := mo g hM
      rw [if_neg (fun q => q cw)] at e2
      exact ⟨g2, e2, f2⟩
  · refine ⟨su (fun i => if dTk (aPic A p) k i = true ∧ mvX (aPic A p) k i ≠ mvY (aPic A p) k i then 1 else 0) (dN (aPic A p)), fun h hS => ?_, fun g hM => ?_⟩
    · obtain ⟨h1, e1, S1, f1⟩ := c_ith (n := n) hS hA hp' hk
      rw [if_pos ck0] at e1
      obtain ⟨h2, e2, s2, f2⟩ := c_sup (n := n) S1 hA hp'
      obtain ⟨z, tl, tg, h3, e3, V3, f3⟩ := s_slv (S := Z0 n) (LX0_173 n) (ScC_k (k := k) s2) hK
      have V3' := V3.cn hK
      have fr3 : ∀ x i, (x < 173 ∨ 201 < x) → h3 x i = h1 x i := fun x i q => by
        rw [f3 x i (by omega), zu_off (by omega)]; exact f2 x i (by omega)
      have S3 : ClS h3 A := S1.cg hA (fun x i q => fr3 x i (by omega))
      obtain ⟨h4, e4, S4, V4, f4⟩ := c_hts (n := n) S3 hA hp'
      have V3'' : SvK h4 173 (dW (aPic A p)) (dH (aPic A p)) (dN (aPic A p)) (dTk (aPic A p) k) (dF (aPic A p)) (dG (aPic A p)) := V3'.cg2 (fun x i a b => f4 x i (by omega))
      refine ⟨h4, ?_, S4, fun x i q => by rw [f4 x i (by omega), fr3 x i (by omega)]; exact f1 x i q⟩
      rw [b124_0, b124_3 e1, if_pos (show ¬ zw 1 = 0 by decide), hw.e, if_pos cw, b124_16 (LX0_173 n) e2 (by omega) (by omega), Int.toNat_natCast, b124_25 (LX0_173 n) (LX0_173 n) e3, b124_29 (LX0_173 n) (LX0_p p3) e4, b124_30 (LX0_173 n) (LX0_p p3) (c_mov wD (LX0_173 n) (LX0_p p3) V3'' V4)]
    · obtain ⟨g2, e2, V2, o2, f2⟩ := mo g hM
      rw [if_pos cw] at e2
      refine ⟨g2, ?_, f2⟩
      have e23 := V2.1.2.2.1
      rw [e2]
      refine (z_chain (N := dN (aPic A p)) (X := fun i => Zx 206 47 [zR 202, zN, zN, zN, zN, zI (su (fun i => if dTk (aPic A p) k i = true ∧ mvX (aPic A p) k i ≠ mvY (aPic A p) k i then 1 else 0) i), zI (i : Int), zN] [] (Z0 n) g2) (fun i hi => ?_)).trans ?_
      · show Zx 206 47 _ _ _ _ = Zx 206 47 _ _ _ _
        have po := V2.po hK hi
        rw [b206_47 (by intros; omega) (by intros; omega) (by intros; omega) (by intros; omega), e23, zw_nat (by omega), zw_nat (by omega), if_neg (by omega), Int.toNat_natCast, po.2, po.1]
        by_cases ti : dTk (aPic A p) k i = true
        · obtain ⟨r1, r2, r3⟩ := rtk_e hi ti
          have pi := pP_in hK hi ti
          have ro := m_roP (n := n) V2 hK (p := pP (dN (aPic A p)) (dW (aPic A p)) (dTk (aPic A p) k) i) ⟨by omega, by omega⟩
          have ef : (fun j => decide ((if dTk (aPic A p) k j = true then pP (dN (aPic A p)) (dW (aPic A p)) (dTk (aPic A p) k) j else -1) = pP (dN (aPic A p)) (dW (aPic A p)) (dTk (aPic A p) k) i)) = (fun j => dTk (aPic A p) k j && decide (pP (dN (aPic A p)) (dW (aPic A p)) (dTk (aPic A p) k) j = pP (dN (aPic A p)) (dW (aPic A p)) (dTk (aPic A p) k) i)) := by
            funext j
            cases tj : dTk (aPic A p) k j
            · rw [if_neg (by decide)]; exact decide_eq_false (by omega)
            · rw [if_pos rfl]; rfl
          rw [ef, r1] at ro
          have b1 := V2.hin hK hi ti
          have b2 := V2.hin hK r2 r3
          obtain ⟨o3, o4⟩ := o2 i hi (dTk_T ti)
          obtain ⟨o5, o6⟩ := o2 _ r2 (dTk_T r3)
          have x1 : -1000000000 ≤ mvX (aPic A p) k i ∧ mvX (aPic A p) k i ≤ 1000000000 := by
            show -1000000000 ≤ hgt (dF (aPic A p)) (ctl (dN (aPic A p)) (dW (aPic A p)) (dTk (aPic A p) k) (dF (aPic A p)) (dG (aPic A p))) i - hgt (dF (aPic A p)) (ctl (dN (aPic A p)) (dW (aPic A p)) (dTk (aPic A p) k) (dF (aPic A p)) (dG (aPic A p))) (rtk (aPic A p) k i) ∧ hgt (dF (aPic A p)) (ctl (dN (aPic A p)) (dW (aPic A p)) (dTk (aPic A p) k) (dF (aPic A p)) (dG (aPic A p))) i - hgt (dF (aPic A p)) (ctl (dN (aPic A p)) (dW (aPic A p)) (dTk (aPic A p) k) (dF (aPic A p)) (dG (aPic A p))) (rtk (aPic A p) k i) ≤ 1000000000
            omega
          have y1 : -1000000000 ≤ mvY (aPic A p) k i ∧ mvY (aPic A p) k i ≤ 1000000000 := by
            unfold mvY
            omega
          have ex : hgt (dF (aPic A p)) (ctl (dN (aPic A p)) (dW (aPic A p)) (dTk (aPic A p) k) (dF (aPic A p)) (dG (aPic A p))) i - hgt (dF (aPic A p)) (ctl (dN (aPic A p)) (dW (aPic A p)) (dTk (aPic A p) k) (dF (aPic A p)) (dG (aPic A p))) (rtk (aPic A p) k i) = mvX (aPic A p) k i := rfl
          have ey : hgt (dF (aPic A p)) (dTl (aPic A p)) i - hgt (dF (aPic A p)) (dTl (aPic A p)) (rtk (aPic A p) k i) = mvY (aPic A p) k i := rfl
          rw [if_pos ti, if_neg (by omega), b206_62 ro, b206_67 (m_hgt V2 hK hi ti), b206_70 (m_hgt V2 hK r2 r3) (by omega) (by omega) (by omega) (by omega), Int.toNat_natCast, Int.toNat_natCast, o3, o5, ex, ey, zw_id (z := mvX (aPic A p) k i) (by omega) (by omega), zw_id (z := mvY (aPic A p) k i) (by omega) (by omega), b206_85, b206_85, b206_87, b206_87, su]
          by_cases d : mvX (aPic A p) k i = mvY (aPic A p) k i
          · rw [if_pos d, if_neg (fun q => q.2 d)]; rfl
          · rw [if_neg d, if_pos ⟨ti, d⟩]; rfl
        · rw [if_neg ti, if_pos rfl, b206_87, su, if_neg (fun q => ti q.1), Int.add_zero]; rfl
      · show Zx 206 47 _ _ _ _ = _
        rw [b206_47 (by rw [e23]; intro q; exact absurd (Int.le_refl _) q) (by rw [e23]; intro q; exact absurd (Int.le_refl _) q) (by rw [e23]; intro q; exact absurd (Int.le_refl _) q) (by rw [e23]; intro q; exact absurd (Int.le_refl _) q), e23, if_pos (Int.le_refl _)]
end OPI2
