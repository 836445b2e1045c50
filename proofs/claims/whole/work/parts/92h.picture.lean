/-! QUESTIONS: picture, out -/
section OPH
variable {n : Nat} {h : zH} {A : aS}
theorem m_fot1 {D : pD} (hR : RfD h D) (hw : wfD D) : Zx 169 0 [zR 202, zI 1, zN, zN, zN] [] (Z0 n) h = some (some (zI (cf (dW D) (dH D) (dT D) (dF D) 1)), Z0 n, h) := by
  have a := m_fot (n := n) hR (wfS_D hw) (kind := 1) ⟨by omega, by omega⟩
  rw [four1_cf (by omega)] at a
  exact a
theorem m_fotm {D : pD} (hR : RfD h D) (hw : wfD D) : Zx 169 0 [zR 202, zI (-1), zN, zN, zN] [] (Z0 n) h = some (some (zI (cf (dW D) (dH D) (dT D) (dF D) (-1))), Z0 n, h) := by
  have a := m_fot (n := n) hR (wfS_D hw) (kind := -1) ⟨by omega, by omega⟩
  rw [four1_cf (by omega)] at a
  exact a
/-- picture -/
theorem op_picture (hA : wfA A) {p w : Int} (hp : zint p) (hw : zint w) : OpI n 111 193 [zR 1, zI p, zI w, zN, zN] [zR 202, zI p, zI w] A := by
  by_cases cp : 0 ≤ p ∧ p < aNp A
  case neg =>
    refine ⟨-2, fun h hS => ⟨h, ?_, hS, frC.rf⟩, fun g hM => ⟨zu g 202 0 0, ?_, frM0⟩⟩
    · rw [b111_0, b111_2 (q0 := 5) (c_isp0 hS hA hp cp) (fun q => absurd zw0 q) (fun q => absurd zw0 q) (fun q => absurd zw0 q) (LX2_5 n), if_pos zw0, b111_9]
    · rw [b193_0, b193_5 (m_lay0 (McT0 hM) hA hp cp), if_neg (fun q => q zw0)]
  obtain ⟨p, rfl, hp'⟩ := nat_of cp
  have np := hA.2.1
  have p3 : p < 3 := by omega
  have wD := hA.2.2.1 p hp'
  have hD := wfS_D wD
  have hN := dN25 wD
  have cl : ∀ h, ClS h A → 0 ≤ w → w ≤ 12 → ∃ h1, Zx 111 0 [zR 1, zI (p : Int), zI w, zN, zN] [] (Z0 n) h = Zx 111 (zfind w [(0, 23), (1, 26), (2, 29), (3, 32), (4, 36), (5, 40), (6, 45), (7, 50), (8, 53), (9, 56), (10, 59), (11, 64)] 67) [zR 1, zI (p : Int), zI w, zR (5 + 5 * p), zR (115 + 19 * p)] [] (Z0 n) h1 ∧ SvK h1 (115 + 19 * p) (dW (aPic A p)) (dH (aPic A p)) (dN (aPic A p)) (dT (aPic A p)) (dF (aPic A p)) (dG (aPic A p)) ∧ PiD h1 (5 + 5 * p) (aPic A p) ∧ ClS h1 A ∧ frC h1 h := fun h hS w1 w2 => by
    obtain ⟨h2, e2, S2, V2, f2⟩ := c_hts (n := n) hS hA hp'
    have hP := S2.1.2.2.2.1 p hp'
    rw [show 2 + 3 + 5 * p = 5 + 5 * p by omega] at hP
    refine ⟨h2, ?_, V2, hP, S2, frC_of f2⟩
    rw [b111_0, b111_2 (c_isp1 hS hA hp') (by intros; omega) (by intros; omega) (fun _ _ _ => pic3 p3) (LX2_p p3), if_neg (show ¬ zw 1 = 0 by decide), hw.e, if_neg (by omega), if_pos (by omega), b111_19 (LX2_p p3) (LX0_p p3) e2, hw.e]
  have mo : ∀ g, McT g 0 A → ∃ g1, Zx 193 0 [zR 202, zI (p : Int), zI w] [] (Z0 n) g = Zx 193 (zfind w [(0, 11), (1, 14), (2, 17), (3, 20), (4, 23), (5, 26), (6, 30), (7, 34), (8, 37), (9, 40), (10, 43), (11, 47), (12, 50)] 53) [zR 202, zI (p : Int), zI w] [] (Z0 n) g1 ∧ HdD g1 (aPic A p) ∧ RtD g1 (aPic A p) ∧ g1 202 30 = cnT (dN (aPic A p)) (dT (aPic A p)) ∧ McT g1 0 A ∧ frM g1 g := fun g hM => by
    obtain ⟨g1, e1, H1, V1, n1, f1⟩ := m_layP (n := n) (McT0 (v := 0) (k := 0) hM) hA hp'
    refine ⟨g1, ?_, H1, V1, n1, (McT0 (v := 0) (k := 0) hM).cg (fun x k q1 q2 => f1 x k (by omega)), f1.tr frM0⟩
    rw [b193_0, b193_5 e1, if_pos (show ¬ zw 1 = 0 by decide), hw.e]
  by_cases cw : w < 0 ∨ 12 < w
  · refine ⟨-2, fun h hS => ⟨h, ?_, hS, frC.rf⟩, fun g hM => ?_⟩
    · rw [b111_0, b111_2 (c_isp1 hS hA hp') (by intros; omega) (by intros; omega) (fun _ _ _ => pic3 p3) (LX2_p p3), if_neg (show ¬ zw 1 = 0 by decide), hw.e]
      by_cases c : w < 0
      · rw [if_pos c, b111_9]
      · rw [if_neg c, if_neg (by omega), b111_9]
    · obtain ⟨g1, e1, -, -, -, -, f1⟩ := mo g hM
      refine ⟨g1, ?_, f1⟩
      rw [e1, zfind, if_neg (by omega), zfind, if_neg (by omega), zfind, if_neg (by omega), zfind, if_neg (by omega), zfind, if_neg (by omega), zfind, if_neg (by omega), zfind, if_neg (by omega), zfind, if_neg (by omega), zfind, if_neg (by omega), zfind, if_neg (by omega), zfind, if_neg (by omega), zfind, if_neg (by omega), zfind, if_neg (by omega), zfind]
      refine (Zx_nm (L' := [zN, zN, zN]) rfl rfl).trans ?_
      rw [b193_53]
  rcases (by omega : w = 0 ∨ w = 1 ∨ w = 2 ∨ w = 3 ∨ w = 4 ∨ w = 5 ∨ w = 6 ∨ w = 7 ∨ w = 8 ∨ w = 9 ∨ w = 10 ∨ w = 11 ∨ w = 12) with e | e | e | e | e | e | e | e | e | e | e | e | e <;> subst e
  · refine ⟨(dW (aPic A p) : Int), fun h hS => ?_, fun g hM => ?_⟩
    · obtain ⟨h1, e1, V1, P1, S1, f1⟩ := cl h hS (by omega) (by omega)
      refine ⟨h1, ?_, S1, f1⟩
      rw [e1]
      show Zx 111 23 _ _ _ _ = _
      refine (Zx_nm (L' := [zN, zN, zN, zR (5 + 5 * p), zN]) rfl rfl).trans ?_
      rw [b111_23 (LX2_p p3), P1.1]
    · obtain ⟨g1, e1, H1, V1, n1, M1, f1⟩ := mo g hM
      refine ⟨g1, ?_, f1⟩
      rw [e1]
      show Zx 193 11 _ _ _ _ = _
      refine (Zx_nm (L' := [zR 202, zN, zN]) rfl rfl).trans ?_
      rw [b193_11, H1.1]
  · refine ⟨(dH (aPic A p) : Int), fun h hS => ?_, fun g hM => ?_⟩
    · obtain ⟨h1, e1, V1, P1, S1, f1⟩ := cl h hS (by omega) (by omega)
      refine ⟨h1, ?_, S1, f1⟩
      rw [e1]
      show Zx 111 26 _ _ _ _ = _
      refine (Zx_nm (L' := [zN, zN, zN, zR (5 + 5 * p), zN]) rfl rfl).trans ?_
      rw [b111_26 (LX2_p p3), P1.2.1]
    · obtain ⟨g1, e1, H1, V1, n1, M1, f1⟩ := mo g hM
      refine ⟨g1, ?_, f1⟩
      rw [e1]
      show Zx 193 14 _ _ _ _ = _
      refine (Zx_nm (L' := [zR 202, zN, zN]) rfl rfl).trans ?_
      rw [b193_14, H1.2.1]
  · refine ⟨dL (aPic A p), fun h hS => ?_, fun g hM => ?_⟩
    · obtain ⟨h1, e1, V1, P1, S1, f1⟩ := cl h hS (by omega) (by omega)
      refine ⟨h1, ?_, S1, f1⟩
      rw [e1]
      show Zx 111 29 _ _ _ _ = _
      refine (Zx_nm (L' := [zN, zN, zN, zR (5 + 5 * p), zN]) rfl rfl).trans ?_
      rw [b111_29 (LX2_p p3), P1.2.2.1]
    · obtain ⟨g1, e1, H1, V1, n1, M1, f1⟩ := mo g hM
      refine ⟨g1, ?_, f1⟩
      rw [e1]
      show Zx 193 17 _ _ _ _ = _
      refine (Zx_nm (L' := [zR 202, zN, zN]) rfl rfl).trans ?_
      rw [b193_17, H1.2.2.1]
  · refine ⟨cnT (dN (aPic A p)) (dT (aPic A p)), fun h hS => ?_, fun g hM => ?_⟩
    · obtain ⟨h1, e1, V1, P1, S1, f1⟩ := cl h hS (by omega) (by omega)
      refine ⟨h1, ?_, S1, f1⟩
      rw [e1]
      show Zx 111 32 _ _ _ _ = _
      refine (Zx_nm (L' := [zN, zN, zN, zN, zR (115 + 19 * p)]) rfl rfl).trans ?_
      rw [b111_32 (LX0_p p3), b111_34 (LX0_p p3).scene (s_cth (LX0_p p3).scene V1.sc hD.2.2.2.1)]
      rfl
    · obtain ⟨g1, e1, H1, V1, n1, M1, f1⟩ := mo g hM
      refine ⟨g1, ?_, f1⟩
      rw [e1]
      show Zx 193 20 _ _ _ _ = _
      refine (Zx_nm (L' := [zR 202, zN, zN]) rfl rfl).trans ?_
      rw [b193_20, n1]
  · refine ⟨(pM (dN (aPic A p)) (dW (aPic A p)) (dT (aPic A p)) : Int), fun h hS => ?_, fun g hM => ?_⟩
    · obtain ⟨h1, e1, V1, P1, S1, f1⟩ := cl h hS (by omega) (by omega)
      refine ⟨h1, ?_, S1, f1⟩
      rw [e1]
      show Zx 111 36 _ _ _ _ = _
      refine (Zx_nm (L' := [zN, zN, zN, zN, zR (115 + 19 * p)]) rfl rfl).trans ?_
      rw [b111_36 (LX0_p p3), V1.pm]
    · obtain ⟨g1, e1, H1, V1, n1, M1, f1⟩ := mo g hM
      refine ⟨g1, ?_, f1⟩
      rw [e1]
      show Zx 193 23 _ _ _ _ = _
      refine (Zx_nm (L' := [zR 202, zN, zN]) rfl rfl).trans ?_
      rw [b193_23, V1.2.1.1]
  · refine ⟨cf (dW (aPic A p)) (dH (aPic A p)) (dT (aPic A p)) (dF (aPic A p)) 1, fun h hS => ?_, fun g hM => ?_⟩
    · obtain ⟨h1, e1, V1, P1, S1, f1⟩ := cl h hS (by omega) (by omega)
      refine ⟨h1, ?_, S1, f1⟩
      rw [e1]
      show Zx 111 40 _ _ _ _ = _
      refine (Zx_nm (L' := [zN, zN, zN, zN, zR (115 + 19 * p)]) rfl rfl).trans ?_
      rw [b111_40 (LX0_p p3), b111_43 (LX0_p p3).scene (s_cf (LX0_p p3).scene V1.sc hD ⟨by omega, by omega⟩)]
    · obtain ⟨g1, e1, H1, V1, n1, M1, f1⟩ := mo g hM
      refine ⟨g1, ?_, f1⟩
      rw [e1]
      show Zx 193 26 _ _ _ _ = _
      refine (Zx_nm (L' := [zR 202, zN, zN]) rfl rfl).trans ?_
      rw [b193_26, b193_28 (m_fot1 V1.1 wD)]
  · refine ⟨cf (dW (aPic A p)) (dH (aPic A p)) (dT (aPic A p)) (dF (aPic A p)) (-1), fun h hS => ?_, fun g hM => ?_⟩
    · obtain ⟨h1, e1, V1, P1, S1, f1⟩ := cl h hS (by omega) (by omega)
      refine ⟨h1, ?_, S1, f1⟩
      rw [e1]
      show Zx 111 45 _ _ _ _ = _
      refine (Zx_nm (L' := [zN, zN, zN, zN, zR (115 + 19 * p)]) rfl rfl).trans ?_
      rw [b111_45 (LX0_p p3), b111_48 (LX0_p p3).scene (s_cf (LX0_p p3).scene V1.sc hD ⟨by omega, by omega⟩)]
    · obtain ⟨g1, e1, H1, V1, n1, M1, f1⟩ := mo g hM
      refine ⟨g1, ?_, f1⟩
      rw [e1]
      show Zx 193 30 _ _ _ _ = _
      refine (Zx_nm (L' := [zR 202, zN, zN]) rfl rfl).trans ?_
      rw [b193_30, b193_32 (m_fotm V1.1 wD)]
  · refine ⟨dZ (aPic A p), fun h hS => ?_, fun g hM => ?_⟩
    · obtain ⟨h1, e1, V1, P1, S1, f1⟩ := cl h hS (by omega) (by omega)
      refine ⟨h1, ?_, S1, f1⟩
      rw [e1]
      show Zx 111 50 _ _ _ _ = _
      refine (Zx_nm (L' := [zN, zN, zN, zN, zR (115 + 19 * p)]) rfl rfl).trans ?_
      rw [b111_50 (LX0_p p3), V1.cost]
    · obtain ⟨g1, e1, H1, V1, n1, M1, f1⟩ := mo g hM
      refine ⟨g1, ?_, f1⟩
      rw [e1]
      show Zx 193 34 _ _ _ _ = _
      refine (Zx_nm (L' := [zR 202, zN, zN]) rfl rfl).trans ?_
      rw [b193_34, V1.2.2.2.2.1]
  · refine ⟨su (fun j => if lea (dF (aPic A p)) (dTl (aPic A p)) (scf (dN (aPic A p)) (dW (aPic A p)) (dT (aPic A p)) j) (sct (dN (aPic A p)) (dW (aPic A p)) (dT (aPic A p)) j) ≠ 0 then 1 else 0) (scJ (dN (aPic A p)) (dW (aPic A p)) (dT (aPic A p))), fun h hS => ?_, fun g hM => ?_⟩
    · obtain ⟨h1, e1, V1, P1, S1, f1⟩ := cl h hS (by omega) (by omega)
      refine ⟨h1, ?_, S1, f1⟩
      rw [e1]
      show Zx 111 53 _ _ _ _ = _
      refine (Zx_nm (L' := [zN, zN, zN, zN, zR (115 + 19 * p)]) rfl rfl).trans ?_
      rw [b111_53 (LX0_p p3), b111_54 (LX0_p p3) (s_cle (LX0_p p3) V1 hD)]
    · obtain ⟨g1, e1, H1, V1, n1, M1, f1⟩ := mo g hM
      refine ⟨g1, ?_, f1⟩
      rw [e1]
      show Zx 193 37 _ _ _ _ = _
      refine (Zx_nm (L' := [zR 202, zN, zN]) rfl rfl).trans ?_
      rw [b193_37, b193_38 (m_lth V1 hD)]
  · refine ⟨su (fun k => if dT (aPic A p) k = true ∧ pW (dN (aPic A p)) (dW (aPic A p)) (dT (aPic A p)) (dF (aPic A p)) k ≠ hgt (dF (aPic A p)) (dTl (aPic A p)) k then 1 else 0) (dN (aPic A p)), fun h hS => ?_, fun g hM => ?_⟩
    · obtain ⟨h1, e1, V1, P1, S1, f1⟩ := cl h hS (by omega) (by omega)
      refine ⟨h1, ?_, S1, f1⟩
      rw [e1]
      show Zx 111 56 _ _ _ _ = _
      refine (Zx_nm (L' := [zN, zN, zN, zN, zR (115 + 19 * p)]) rfl rfl).trans ?_
      rw [b111_56 (LX0_p p3), b111_57 (LX0_p p3) (s_cwr (LX0_p p3) V1 hD)]
    · obtain ⟨g1, e1, H1, V1, n1, M1, f1⟩ := mo g hM
      refine ⟨g1, ?_, f1⟩
      rw [e1]
      show Zx 193 40 _ _ _ _ = _
      refine (Zx_nm (L' := [zR 202, zN, zN]) rfl rfl).trans ?_
      rw [b193_40, b193_41 (m_wro V1 hD)]
  · refine ⟨(mdS (aPic A p) (dN (aPic A p))).1, fun h hS => ?_, fun g hM => ?_⟩
    · obtain ⟨h1, e1, V1, P1, S1, f1⟩ := cl h hS (by omega) (by omega)
      obtain ⟨h2, e2, f2⟩ := c_mnd (n := n) S1 hA hp' V1
      refine ⟨h2, ?_, S1.cg hA (fun x i q => f2 x i (by omega)), fun x i q => by rw [f2 x i (by omega)]; exact f1 x i q⟩
      rw [e1]
      show Zx 111 59 _ _ _ _ = _
      refine (Zx_nm (L' := [zR 1, zI (p : Int), zN, zN, zR (115 + 19 * p)]) rfl rfl).trans ?_
      rw [b111_59 (LX0_p p3), b111_62 (LX0_p p3) e2]
    · obtain ⟨g1, e1, H1, V1, n1, M1, f1⟩ := mo g hM
      obtain ⟨g2, e2, f2⟩ := m_mnd (n := n) M1 hA hp' V1.1.2.2.1 V1.2.2.2.2.1
      refine ⟨g2, ?_, f2.tr f1⟩
      rw [e1]
      show Zx 193 43 _ _ _ _ = _
      refine (Zx_nm (L' := [zR 202, zI (p : Int), zN]) rfl rfl).trans ?_
      rw [b193_43, b193_45 e2]
  · refine ⟨(rgh (dN (aPic A p)) (dW (aPic A p)) (dT (aPic A p)) (dF (aPic A p)) (dG (aPic A p)) (dTl (aPic A p)) (dN (aPic A p))).1, fun h hS => ?_, fun g hM => ?_⟩
    · obtain ⟨h1, e1, V1, P1, S1, f1⟩ := cl h hS (by omega) (by omega)
      refine ⟨h1, ?_, S1, f1⟩
      rw [e1]
      show Zx 111 64 _ _ _ _ = _
      refine (Zx_nm (L' := [zN, zN, zN, zN, zR (115 + 19 * p)]) rfl rfl).trans ?_
      rw [b111_64 (LX0_p p3), b111_65 (LX0_p p3) (s_rou (LX0_p p3) V1 hD)]
    · obtain ⟨g1, e1, H1, V1, n1, M1, f1⟩ := mo g hM
      refine ⟨g1, ?_, f1⟩
      rw [e1]
      show Zx 193 47 _ _ _ _ = _
      refine (Zx_nm (L' := [zR 202, zN, zN]) rfl rfl).trans ?_
      rw [b193_47, b193_48 (m_rog V1 hD)]
  · refine ⟨su (fun k => if dT (aPic A p) k = true ∧ dTg (aPic A p) k = dTl (aPic A p) k then 1 else 0) (dN (aPic A p)), fun h hS => ?_, fun g hM => ?_⟩
    · obtain ⟨h1, e1, V1, P1, S1, f1⟩ := cl h hS (by omega) (by omega)
      refine ⟨h1, ?_, S1, f1⟩
      rw [e1]
      show Zx 111 67 _ _ _ _ = _
      refine (Zx_nm (L' := [zN, zN, zN, zN, zR (115 + 19 * p)]) rfl rfl).trans ?_
      rw [b111_67 (LX0_p p3), b111_68 (LX0_p p3) (s_csu (LX0_p p3) V1 hD)]
    · obtain ⟨g1, e1, H1, V1, n1, M1, f1⟩ := mo g hM
      refine ⟨g1, ?_, f1⟩
      rw [e1]
      show Zx 193 50 _ _ _ _ = _
      refine (Zx_nm (L' := [zR 202, zN, zN]) rfl rfl).trans ?_
      rw [b193_50, b193_51 (m_sur V1 hD)]
theorem rt_of {N W : Nat} {T : Nat → Bool} {i : Nat} (hi : i < N) (ti : T i = true) : ∃ r : Nat, fst (fun j => T j && decide (pP N W T j = pP N W T i)) N = (r : Int) ∧ r < N ∧ T r = true := by
  rcases fst_cases (fun j => T j && decide (pP N W T j = pP N W T i)) N with ⟨-, h2⟩ | ⟨k, h1, h2, h3, h4⟩
  · have := h2 i hi
    (try dsimp only at this)
    rw [ti, decide_eq_true rfl] at this
    cases this
  · rw [Bool.and_eq_true] at h3
    exact ⟨k, h2, h1, h3.1⟩
end OPH
