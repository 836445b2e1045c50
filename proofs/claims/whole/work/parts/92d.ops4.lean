/-! QUESTIONS: fails, fringes, height, differ, pixel -/
section OPD
variable {n : Nat} {h : zH} {A : aS}
/-- fails -/
theorem op_fails (hA : wfA A) {p t w : Int} (hp : zint p) (ht : zint t) (hw : zint w) : OpI n 135 223 [zR 1, zI p, zI t, zI w, zN, zN, zN, zN, zN] [zR 202, zI p, zI t, zI w, zN, zN, zN] A := by
  by_cases cp : 0 ≤ p ∧ p < aNp A
  case neg =>
    refine ⟨-1, fun h hS => ⟨h, ?_, hS, frC.rf⟩, fun g hM => ⟨zu g 202 0 0, ?_, frM0⟩⟩
    · rw [b135_0, b135_2 (c_isp0 hS hA hp cp), if_pos zw0, b135_8]
    · by_cases c : 0 ≤ t ∧ t < aNt A
      · obtain ⟨t, rfl, ht'⟩ := nat_of c
        have nt := hA.2.2.2.1
        rw [b223_0, b223_5 (m_ist1 (McT0 hM) hA ht'), if_neg (show ¬ zw 1 = 0 by decide), b223_9 (m_lay0 (McT0 hM) hA hp cp) (by intros; omega) (by intros; omega), if_neg (fun q => q zw0), b223_11]
      · rw [b223_0, b223_5 (m_ist0 (McT0 hM) hA ht c), if_pos zw0, b223_11]
  obtain ⟨p, rfl, hp'⟩ := nat_of cp
  by_cases c : 0 ≤ t ∧ t < aNt A
  case neg =>
    refine ⟨-1, fun h hS => ⟨h, ?_, hS, frC.rf⟩, fun g hM => ⟨zu g 202 0 0, ?_, frM0⟩⟩
    · rw [b135_0, b135_2 (c_isp1 hS hA hp'), if_neg (show ¬ zw 1 = 0 by decide), b135_6 (c_ist0 hS hA ht c), if_neg (fun q => q zw0), b135_8]
    · rw [b223_0, b223_5 (m_ist0 (McT0 hM) hA ht c), if_pos zw0, b223_11]
  obtain ⟨t, rfl, ht'⟩ := nat_of c
  have np := hA.2.1
  have p3 : p < 3 := by omega
  have nt := hA.2.2.2.1
  have t2 : t < 2 := by omega
  have wD := hA.2.2.1 p hp'
  have hD := wfS_D wD
  have wT := hA.2.2.2.2.1 t ht'
  have n8 := wT.1
  refine ⟨if w = 0 then fst (fun k => decide ((aTri A t).2.2 k < nmv (aPic A p) ((aTri A t).2.1 k))) (aTri A t).1 else su (fun k => if (aTri A t).2.2 k < nmv (aPic A p) ((aTri A t).2.1 k) then 1 else 0) (aTri A t).1, fun h hS => ?_, fun g hM => ?_⟩
  · obtain ⟨h1, e1, S1, V1, f1⟩ := c_hts (n := n) hS hA hp'
    obtain ⟨T0, T1⟩ := S1.1.2.2.2.2.2.1 t ht'
    rw [show 2 + 19 + 3 * t = 21 + 3 * t by omega] at T0 T1
    refine ⟨h1, ?_, S1, frC_of f1⟩
    rw [b135_0, b135_2 (c_isp1 hS hA hp'), if_neg (show ¬ zw 1 = 0 by decide), b135_6 (c_ist1 hS hA ht'), if_pos (show ¬ zw 1 = 0 by decide), b135_12 (LX0_p p3) e1 (by intros; omega) (by intros; omega) (tri2 t2) (LX8_t t2)]
    refine (z_chain (N := (aTri A t).1) (X := fun k => Zx 135 26 [zN, zN, zN, zI w, zR (115 + 19 * p), zR (21 + 3 * t), zI (fst (fun k => decide ((aTri A t).2.2 k < nmv (aPic A p) ((aTri A t).2.1 k))) k), zI (su (fun k => if (aTri A t).2.2 k < nmv (aPic A p) ((aTri A t).2.1 k) then 1 else 0) k), zI (k : Int)] [] (Z0 n) h1) (fun k hk => ?_)).trans ?_
    · obtain ⟨u1, u2⟩ := T1 k hk
      obtain ⟨v1, v2⟩ := wT.2 k hk
      have nm := nmv_in wD V1 (k := (aTri A t).2.1 k)
      have fl := fst_lt (p := fun k => decide ((aTri A t).2.2 k < nmv (aPic A p) ((aTri A t).2.1 k))) (n := k)
      have fg : -1 ≤ fst (fun k => decide ((aTri A t).2.2 k < nmv (aPic A p) ((aTri A t).2.1 k))) k := by
        rcases fst_cases (fun k => decide ((aTri A t).2.2 k < nmv (aPic A p) ((aTri A t).2.1 k))) k with ⟨a, -⟩ | ⟨i, -, a, -⟩ <;> omega
      show Zx 135 26 _ _ _ _ = Zx 135 26 [zN, zN, zN, zI w, zR (115 + 19 * p), zR (21 + 3 * t), zI (if fst (fun k => decide ((aTri A t).2.2 k < nmv (aPic A p) ((aTri A t).2.1 k))) k = -1 then (if decide ((aTri A t).2.2 k < nmv (aPic A p) ((aTri A t).2.1 k)) = true then (k : Int) else -1) else fst (fun k => decide ((aTri A t).2.2 k < nmv (aPic A p) ((aTri A t).2.1 k))) k), zI (su (fun k => if (aTri A t).2.2 k < nmv (aPic A p) ((aTri A t).2.1 k) then 1 else 0) k + (if (aTri A t).2.2 k < nmv (aPic A p) ((aTri A t).2.1 k) then 1 else 0)), zI ((k + 1 : Nat) : Int)] [] (Z0 n) h1
      rw [b135_26 (LX0_p p3) (LX8_t t2) (by intros; omega) (by intros; omega), T0, zw_nat (by omega), zw_nat (by omega), if_neg (by omega), Int.toNat_natCast, u1, b135_35 (LX0_p p3) (LX8_t t2) (LX0_p p3) (c_named (LX0_p p3) wD V1 v1) (by intros; omega) (by intros; omega), Int.toNat_natCast, u2, zw_id (z := nmv (aPic A p) ((aTri A t).2.1 k)) (by omega) (by omega), zw_id (z := (aTri A t).2.2 k) (by omega) (by omega), zw_id (z := fst (fun k => decide ((aTri A t).2.2 k < nmv (aPic A p) ((aTri A t).2.1 k))) k) (by omega) (by omega), b135_47 (LX0_p p3) (LX8_t t2), b135_47 (LX0_p p3) (LX8_t t2), b135_47 (LX0_p p3) (LX8_t t2)]
      by_cases d : (aTri A t).2.2 k < nmv (aPic A p) ((aTri A t).2.1 k)
      · rw [if_neg (by omega), if_pos d, if_pos (decide_eq_true d)]
        by_cases e : fst (fun k => decide ((aTri A t).2.2 k < nmv (aPic A p) ((aTri A t).2.1 k))) k = -1
        · rw [if_neg (fun z => z e), if_pos e]; rfl
        · rw [if_pos e, if_neg e]; rfl
      · rw [if_pos (by omega), if_neg d, if_neg (fun z => d (of_decide_eq_true z)), Int.add_zero]
        by_cases e : fst (fun k => decide ((aTri A t).2.2 k < nmv (aPic A p) ((aTri A t).2.1 k))) k = -1
        · rw [if_pos e, e]; rfl
        · rw [if_neg e]; rfl
    · show Zx 135 26 _ _ _ _ = _
      rw [b135_26 (LX0_p p3) (LX8_t t2) (by rw [T0]; intro q; exact absurd (Int.le_refl _) q) (by rw [T0]; intro q; exact absurd (Int.le_refl _) q), T0, if_pos (Int.le_refl _), hw.e, b135_54, b135_54]
      by_cases d : w = 0
      · rw [if_pos d, if_pos d]
      · rw [if_neg d, if_neg d]
  · obtain ⟨g1, e1, H1, V1, n1, f1⟩ := m_layP (n := n) (McT0 (v := 0) (k := 0) hM) hA hp'
    have hM1 : McT g1 0 A := (McT0 (v := 0) (k := 0) hM).cg (fun x k q1 q2 => f1 x k (by omega))
    obtain ⟨T0, T1⟩ := hM1.2.2.2.2.2.1 t ht'
    rw [show 34 * 0 + 17 * t = 17 * t by omega] at T0 T1
    have et : ((17 : Int) * (t : Int)).toNat = 17 * t := by omega
    refine ⟨g1, ?_, f1.tr frM0⟩
    have nm : ∀ k, -2000000000 ≤ nmv (aPic A p) k ∧ nmv (aPic A p) k ≤ 2000000000 := fun k => by
      have hN := dN25 wD
      have a : 0 ≤ dZ (aPic A p) ∧ dZ (aPic A p) ≤ 30000 := dZ_in hD
      have b := cnTn_in (N := dN (aPic A p)) (T := dT (aPic A p))
      have c := pM25 hD
      have d := cf_in hD (k := 1)
      have e := cf_in hD (k := -1)
      have f : 0 ≤ pgh (dN (aPic A p)) (dW (aPic A p)) (dT (aPic A p)) (dF (aPic A p)) (dTl (aPic A p)) (pM (dN (aPic A p)) (dW (aPic A p)) (dT (aPic A p))) ∧ pgh (dN (aPic A p)) (dW (aPic A p)) (dT (aPic A p)) (dF (aPic A p)) (dTl (aPic A p)) (pM (dN (aPic A p)) (dW (aPic A p)) (dT (aPic A p))) ≤ 1000000000 := pghR_in V1 hD _ (Nat.le_refl _)
      have g := sub_in (p := fun k => dT (aPic A p) k = true ∧ pW (dN (aPic A p)) (dW (aPic A p)) (dT (aPic A p)) (dF (aPic A p)) k ≠ hgt (dF (aPic A p)) (dTl (aPic A p)) k) (m := dN (aPic A p))
      unfold nmv
      split
      · omega
      · split
        · omega
        · split
          · omega
          · split
            · omega
            · split
              · omega
              · omega
    have e0 : ((aTri A t).1 : Int) - 1 = ((aTri A t).1 : Int) - 1 - ((0 : Nat) : Int) := by omega
    rw [b223_0, b223_5 (m_ist1 (McT0 hM) hA ht'), if_neg (show ¬ zw 1 = 0 by decide), b223_9 e1 (by intros; omega) (by intros; omega), if_pos (show ¬ zw 1 = 0 by decide), et, T0, e0]
    refine (z_chain (N := (aTri A t).1) (X := fun i => Zx 223 26 [zR 202, zN, zI (t : Int), zI w, zI (lsf (fun k => decide ((aTri A t).2.2 k < nmv (aPic A p) ((aTri A t).2.1 k))) (aTri A t).1 i), zI (su (fun i => (fun k => if (aTri A t).2.2 k < nmv (aPic A p) ((aTri A t).2.1 k) then (1 : Int) else 0) ((aTri A t).1 - 1 - i)) i), zI (((aTri A t).1 : Int) - 1 - (i : Int))] [] (Z0 n) g1) (fun i hi => ?_)).trans ?_
    · obtain ⟨u1, u2⟩ := T1 ((aTri A t).1 - 1 - i) (by omega)
      obtain ⟨v1, v2⟩ := wT.2 ((aTri A t).1 - 1 - i) (by omega)
      have nk := nm ((aTri A t).2.1 ((aTri A t).1 - 1 - i))
      have en : ((aTri A t).1 : Int) - 1 - (i : Int) = (((aTri A t).1 - 1 - i : Nat) : Int) := by omega
      have en2 : ((aTri A t).1 : Int) - 1 - (i : Int) + -1 = ((aTri A t).1 : Int) - 1 - ((i + 1 : Nat) : Int) := by omega
      show Zx 223 26 _ _ _ _ = Zx 223 26 [zR 202, zN, zI (t : Int), zI w, zI (if decide ((aTri A t).2.2 ((aTri A t).1 - 1 - i) < nmv (aPic A p) ((aTri A t).2.1 ((aTri A t).1 - 1 - i))) = true then (((aTri A t).1 - 1 - i : Nat) : Int) else lsf (fun k => decide ((aTri A t).2.2 k < nmv (aPic A p) ((aTri A t).2.1 k))) (aTri A t).1 i), zI (su (fun i => (fun k => if (aTri A t).2.2 k < nmv (aPic A p) ((aTri A t).2.1 k) then (1 : Int) else 0) ((aTri A t).1 - 1 - i)) i + (if (aTri A t).2.2 ((aTri A t).1 - 1 - i) < nmv (aPic A p) ((aTri A t).2.1 ((aTri A t).1 - 1 - i)) then (1 : Int) else 0)), zI (((aTri A t).1 : Int) - 1 - ((i + 1 : Nat) : Int))] [] (Z0 n) g1
      rw [← en2, en, b223_26 (by rw [zw_nat (by omega)]; intros; omega) (by rw [zw_nat (by omega)]; intros; omega), zw_nat (n := (aTri A t).1 - 1 - i) (by omega), if_neg (by omega), show ((((17 : Int) * (t : Int)) + 1) + (2 * (((aTri A t).1 - 1 - i : Nat) : Int))).toNat = 17 * t + 1 + 2 * ((aTri A t).1 - 1 - i) by omega, u1, b223_41 (m_named wD V1 n1 v1) (by intros; omega) (by intros; omega), show ((((17 : Int) * (t : Int)) + 2) + (2 * (((aTri A t).1 - 1 - i : Nat) : Int))).toNat = 17 * t + 2 + 2 * ((aTri A t).1 - 1 - i) by omega, u2, zw_id (z := nmv (aPic A p) ((aTri A t).2.1 ((aTri A t).1 - 1 - i))) (by omega) (by omega), zw_id (z := (aTri A t).2.2 ((aTri A t).1 - 1 - i)) (by omega) (by omega), b223_58, b223_58]
      by_cases d : (aTri A t).2.2 ((aTri A t).1 - 1 - i) < nmv (aPic A p) ((aTri A t).2.1 ((aTri A t).1 - 1 - i))
      · rw [if_neg (by omega), if_pos d, if_pos (decide_eq_true d)]
      · rw [if_pos (by omega), if_neg d, if_neg (fun z => d (of_decide_eq_true z)), Int.add_zero]
    · show Zx 223 26 _ _ _ _ = _
      have rv := su_rev (f := fun k => if (aTri A t).2.2 k < nmv (aPic A p) ((aTri A t).2.1 k) then (1 : Int) else 0) (L := (aTri A t).1) _ (Nat.le_refl _)
      rw [Nat.sub_self] at rv
      have rv' : su (fun i => (fun k => if (aTri A t).2.2 k < nmv (aPic A p) ((aTri A t).2.1 k) then (1 : Int) else 0) ((aTri A t).1 - 1 - i)) (aTri A t).1 = su (fun k => if (aTri A t).2.2 k < nmv (aPic A p) ((aTri A t).2.1 k) then (1 : Int) else 0) (aTri A t).1 := by
        rw [← rv]; exact (Int.add_zero _).symm
      rw [show ((aTri A t).1 : Int) - 1 - ((aTri A t).1 : Int) = -1 by omega, lsf_fst, rv', b223_26 (fun q => absurd (show zw (-1) < 0 by decide) q) (fun q => absurd (show zw (-1) < 0 by decide) q), zwm1, if_pos (by omega), hw.e, b223_65, b223_65]
      by_cases d : w = 0
      · rw [if_pos d, if_pos d]
      · rw [if_neg d, if_neg d]
/-- floors alike -/
theorem floD_ediv {a s : Int} (hs : 1 ≤ s) : floD a s = a / s := by
  unfold floD
  by_cases c : 0 ≤ a
  · rw [if_pos c, Int.tdiv_eq_ediv_of_nonneg c]
  · rw [if_neg c]
    have td : Int.tdiv a s = -((-a) / s) := by
      have : Int.tdiv a s = -(Int.tdiv (-a) s) := by rw [Int.neg_tdiv]; omega
      rw [this, Int.tdiv_eq_ediv_of_nonneg (by omega)]
    rw [td]
    have e1 := Int.mul_ediv_add_emod (-a) s
    have e2 := Int.emod_nonneg (-a) (show s ≠ 0 by omega)
    have e3 := Int.emod_lt_of_pos (-a) (show 0 < s by omega)
    have e4 := Int.mul_ediv_add_emod a s
    have e5 := Int.emod_nonneg a (show s ≠ 0 by omega)
    have e6 := Int.emod_lt_of_pos a (show 0 < s by omega)
    generalize hq : (-a) / s = q at *
    generalize hr : (-a) % s = r at *
    have cm : -q * s = -(s * q) := by rw [Int.neg_mul, Int.mul_comm]
    by_cases d : -q * s = a
    · rw [if_pos d]
      exact (Int.ediv_eq_of_eq_mul_left (by omega) d.symm).symm
    · rw [if_neg d]
      have : a / s = -q - 1 := by
        have ea : a = (s - r) + s * (-q - 1) := by
          rw [Int.mul_sub, Int.mul_neg, Int.mul_one]; omega
        rw [ea, Int.add_mul_ediv_left _ _ (by omega), Int.ediv_eq_zero_of_lt (by omega) (by omega)]
        omega
      omega
theorem m_flo2 {S : zS} {a s : Int} (ha : -600000000 ≤ a ∧ a ≤ 600000000) (hs : 1 ≤ s ∧ s ≤ 9999) : Zx 230 0 [zI a, zI s] [] S h = some (some (zI (a / s)), S, h) := by
  have za := zw_id (z := a) (by omega) (by omega)
  have zs := zw_id (z := s) (by omega) (by omega)
  rw [b230_0 (by rw [zs]; intros; omega) (by rw [zs]; intros; omega), za, zs, zw_id (z := s - 1 - a) (by omega) (by omega), b230_14, b230_14]
  by_cases c : a < 0
  · rw [if_pos c, Int.tdiv_eq_ediv_of_nonneg (by omega)]
    have : -((s - 1 - a) / s) = a / s := by
      have e4 := Int.mul_ediv_add_emod a s
      have e5 := Int.emod_nonneg a (show s ≠ 0 by omega)
      have e6 := Int.emod_lt_of_pos a (show 0 < s by omega)
      generalize a / s = q at *
      generalize a % s = r at *
      have ea : s - 1 - a = (s - 1 - r) + s * (-q) := by
        rw [Int.mul_neg]; omega
      rw [ea, Int.add_mul_ediv_left _ _ (by omega), Int.ediv_eq_zero_of_lt (by omega) (by omega)]
      omega
    rw [this]
  · rw [if_neg c, Int.tdiv_eq_ediv_of_nonneg (by omega)]
/-- fringes -/
theorem op_fringes (hA : wfA A) {p s : Int} (hp : zint p) (hs : zint s) : OpI n 121 231 [zR 1, zI p, zI s] [zR 202, zI p, zI s, zN, zN] A := by
  have hi := fun (g : zH) => s_inz (S := Z0 n) (h := g) (a := s) (b := 1) (c := 9999) hs ⟨by omega, by omega⟩ ⟨by omega, by omega⟩
  by_cases cp : 0 ≤ p ∧ p < aNp A
  case neg =>
    refine ⟨-1, fun h hS => ⟨h, ?_, hS, frC.rf⟩, fun g hM => ⟨zu g 202 0 0, ?_, frM0⟩⟩
    · rw [b121_0, b121_2 (c_isp0 hS hA hp cp), if_pos zw0, b121_16, b121_17]
    · rw [b231_0, b231_6 (hi _)]
      by_cases d : 1 ≤ s ∧ s ≤ 9999
      · rw [if_neg (zif_neg d), b231_10 (m_lay0 (McT0 hM) hA hp cp), if_neg (fun q => q zw0), b231_12]
      · rw [if_pos (zif_pos d), b231_12]
  obtain ⟨p, rfl, hp'⟩ := nat_of cp
  by_cases cs : 1 ≤ s ∧ s ≤ 9999
  case neg =>
    refine ⟨-1, fun h hS => ⟨h, ?_, hS, frC.rf⟩, fun g hM => ⟨zu g 202 0 0, ?_, frM0⟩⟩
    · rw [b121_0, b121_2 (c_isp1 hS hA hp'), if_neg (show ¬ zw 1 = 0 by decide), hs.e]
      by_cases d : s < 1
      · rw [if_pos d, b121_16, b121_17]
      · rw [if_neg d, if_pos (by omega), b121_16, b121_17]
    · rw [b231_0, b231_6 (hi _), if_pos (zif_pos cs), b231_12]
  have np := hA.2.1
  have p3 : p < 3 := by omega
  have hD := wfS_D (hA.2.2.1 p hp')
  have h25 := hD.2.2.2.1
  refine ⟨su (fun j => if floD (hgt (dF (aPic A p)) (dTl (aPic A p)) (scf (dN (aPic A p)) (dW (aPic A p)) (dT (aPic A p)) j)) s ≠ floD (hgt (dF (aPic A p)) (dTl (aPic A p)) (sct (dN (aPic A p)) (dW (aPic A p)) (dT (aPic A p)) j)) s then 1 else 0) (scJ (dN (aPic A p)) (dW (aPic A p)) (dT (aPic A p))), fun h hS => ?_, fun g hM => ?_⟩
  · obtain ⟨h1, e1, S1, V1, f1⟩ := c_hts (n := n) hS hA hp'
    refine ⟨h1, ?_, S1, frC_of f1⟩
    rw [b121_0, b121_2 (c_isp1 hS hA hp'), if_neg (show ¬ zw 1 = 0 by decide), hs.e, if_neg (by omega), if_neg (by omega), b121_12 (LX0_p p3) e1, b121_14 (LX0_p p3) (s_fri (LX0_p p3) V1 hD cs), b121_17]
  · obtain ⟨g1, e1, H1, V1, n1, f1⟩ := m_layP (n := n) (McT0 (v := 0) (k := 0) hM) hA hp'
    refine ⟨g1, ?_, f1.tr frM0⟩
    have e33 := V1.2.2.1.1
    have j40 : scJ (dN (aPic A p)) (dW (aPic A p)) (dT (aPic A p)) ≤ 40 := jl_40 hD.1 hD.2.1 hD.2.2.1
    rw [b231_0, b231_6 (hi _), if_neg (zif_neg cs), b231_10 e1, if_pos (show ¬ zw 1 = 0 by decide)]
    refine (z_chain (N := scJ (dN (aPic A p)) (dW (aPic A p)) (dT (aPic A p))) (X := fun j => Zx 231 18 [zR 202, zN, zI s, zI (su (fun j => if floD (hgt (dF (aPic A p)) (dTl (aPic A p)) (scf (dN (aPic A p)) (dW (aPic A p)) (dT (aPic A p)) j)) s ≠ floD (hgt (dF (aPic A p)) (dTl (aPic A p)) (sct (dN (aPic A p)) (dW (aPic A p)) (dT (aPic A p)) j)) s then 1 else 0) j), zI (j : Int)] [] (Z0 n) g1) (fun j hj => ?_)).trans ?_
    · show Zx 231 18 _ _ _ _ = Zx 231 18 _ _ _ _
      obtain ⟨a1, a2, a3, a4, a5⟩ := sc_at hD hj
      obtain ⟨c1, c2, c3, c4⟩ := V1.2.2.1.2 j hj
      have r1 : -600000000 ≤ hgt (dF (aPic A p)) (dTl (aPic A p)) (scf (dN (aPic A p)) (dW (aPic A p)) (dT (aPic A p)) j) ∧ hgt (dF (aPic A p)) (dTl (aPic A p)) (scf (dN (aPic A p)) (dW (aPic A p)) (dT (aPic A p)) j) ≤ 600000000 := by
        have := V1.hin hD (k := scf (dN (aPic A p)) (dW (aPic A p)) (dT (aPic A p)) j) (by omega) a3
        exact ⟨Int.le_trans (by decide) this.1, Int.le_trans this.2 (by decide)⟩
      have r2 : -600000000 ≤ hgt (dF (aPic A p)) (dTl (aPic A p)) (sct (dN (aPic A p)) (dW (aPic A p)) (dT (aPic A p)) j) ∧ hgt (dF (aPic A p)) (dTl (aPic A p)) (sct (dN (aPic A p)) (dW (aPic A p)) (dT (aPic A p)) j) ≤ 600000000 := by
        have := V1.hin hD a2 a4
        exact ⟨Int.le_trans (by decide) this.1, Int.le_trans this.2 (by decide)⟩
      have d1 : ∀ a : Int, -600000000 ≤ a ∧ a ≤ 600000000 → -600000000 ≤ a / s ∧ a / s ≤ 600000000 := fun a ha => by
        have b1 := Int.ediv_le_ediv (show 0 < s by omega) ha.1
        have b2 := Int.ediv_le_ediv (show 0 < s by omega) ha.2
        have b3 : (-600000000 : Int) ≤ -600000000 / s := by
          refine (Int.le_ediv_iff_mul_le (by omega)).mpr ?_
          have := Int.mul_le_mul_of_nonneg_left (show (1 : Int) ≤ s by omega) (show (0 : Int) ≤ 600000000 by omega)
          omega
        have b4 : (600000000 : Int) / s ≤ 600000000 := Int.ediv_le_self _ (by omega)
        omega
      rw [su, floD_ediv (by omega), floD_ediv (by omega), b231_18 (by intros; omega) (by intros; omega), e33, zw_nat (by omega), zw_nat (by omega), if_neg (by omega), Int.toNat_natCast, c1, b231_28 (m_hgt V1 hD (by omega) a3), b231_30 (m_flo2 (by omega) cs) (by intros; omega) (by intros; omega), Int.toNat_natCast, c2, b231_36 (m_hgt V1 hD a2 a4), b231_38 (m_flo2 (by omega) cs)]
      have q1 := d1 _ r1
      have q2 := d1 _ r2
      rw [zw_id (z := hgt (dF (aPic A p)) (dTl (aPic A p)) (scf (dN (aPic A p)) (dW (aPic A p)) (dT (aPic A p)) j) / s) (by omega) (by omega), zw_id (z := hgt (dF (aPic A p)) (dTl (aPic A p)) (sct (dN (aPic A p)) (dW (aPic A p)) (dT (aPic A p)) j) / s) (by omega) (by omega), b231_43, b231_43]
      by_cases d : hgt (dF (aPic A p)) (dTl (aPic A p)) (scf (dN (aPic A p)) (dW (aPic A p)) (dT (aPic A p)) j) / s = hgt (dF (aPic A p)) (dTl (aPic A p)) (sct (dN (aPic A p)) (dW (aPic A p)) (dT (aPic A p)) j) / s
      · rw [if_pos d, if_neg (fun z => z d)]; rfl
      · rw [if_neg d, if_pos d]; rfl
    · show Zx 231 18 _ _ _ _ = _
      rw [b231_18 (by rw [e33]; intro q; exact absurd (Int.le_refl _) q) (by rw [e33]; intro q; exact absurd (Int.le_refl _) q), e33, if_pos (Int.le_refl _)]
end OPD
