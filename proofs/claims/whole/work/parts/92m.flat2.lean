/-! QUESTIONS: flat -/
section FLB
variable {n : Nat} {h : zH} {A : aS}
/-- FringeBench.heightsOf -/
theorem c_htk (hS : ClS h A) (hA : wfA A) {p : Nat} (hp : p < aNp A) : ∃ h', Zx 109 0 [zR 1, zI (p : Int), zN, zN] [] (Z0 n) h = some (some (zR (115 + 19 * p)), Z0 n, h') ∧ ClS h' A ∧ SvK h' (115 + 19 * p) (dW (aPic A p)) (dH (aPic A p)) (dN (aPic A p)) (dT (aPic A p)) (dF (aPic A p)) (dG (aPic A p)) ∧ (∀ x k, (x < 115 ∨ 172 < x) → h' x k = h x k) ∧ ∀ p', p' < aNp A → SvK h (115 + 19 * p') (dW (aPic A p')) (dH (aPic A p')) (dN (aPic A p')) (dT (aPic A p')) (dF (aPic A p')) (dG (aPic A p')) → SvK h' (115 + 19 * p') (dW (aPic A p')) (dH (aPic A p')) (dN (aPic A p')) (dT (aPic A p')) (dF (aPic A p')) (dG (aPic A p')) := by
  have np := hA.2.1
  have p3 : p < 3 := by omega
  have hD := hA.2.2.1 p hp
  have hP := hS.1.2.2.2.1 p hp
  have st := b109_0 (n := n) (h := h) (l1 := (p : Int)) (q0 := 115 + 19 * p) (q1 := 5 + 5 * p) (by omega) (by omega) (hts3 p3) (LX0_p p3) (by omega) (by omega) (by intros; omega) (by intros; omega) (fun _ => pic3 p3) (LX2_p p3)
  rw [Int.toNat_natCast] at st
  rcases hS.2 p p3 with c | ⟨c1, c2, c3⟩
  · rw [c, if_neg (fun q => q zw0)] at st
    rw [show 2 + 3 + 5 * p = 5 + 5 * p by omega] at hP
    have hl : zint (dL (aPic A p)) := by have := hD.2.2.1; exact ⟨by omega, by omega⟩
    obtain ⟨h1, e1, s1, f1⟩ := s_tak (S := Z0 n) (LX0.scene (LX0_p p3)) (LX2_p p3) (by omega) hP hD hl
    obtain ⟨z, tl, tg, h2, e2, v2, f2⟩ := s_slv (S := Z0 n) (LX0_p p3) s1 (wfS_D hD)
    have st2 : Zx 109 0 [zR 1, zI (p : Int), zN, zN] [] (Z0 n) h = some (some (zR (115 + 19 * p)), Z0 n, zu h2 172 p 1) := by
      rw [st, hP.2.2.1, b109_21 (LX0_p p3) (LX0.scene (LX0_p p3)) (LX2_p p3) e1, b109_23 (LX0_p p3) (LX0_p p3) e2 (by omega) (by omega), Int.toNat_natCast, b109_29 (LX0_p p3)]
    have fr : ∀ x k, (x < 115 + 19 * p ∨ 133 + 19 * p < x) → ¬ (x = 172 ∧ k = p) → (zu h2 172 p 1) x k = h x k := fun x k q1 q2 => by
      rw [zu_off (by omega), f2 x k (by omega), f1 x k (by omega)]
    have sv : SvK (zu h2 172 p 1) (115 + 19 * p) (dW (aPic A p)) (dH (aPic A p)) (dN (aPic A p)) (dT (aPic A p)) (dF (aPic A p)) (dG (aPic A p)) := (v2.cn (wfS_D hD)).cg2 (fun x k q1 q2 => by rw [zu_off (by omega)])
    refine ⟨_, st2, ⟨hS.1.cg hA (fun x k q1 q2 => fr x k (by omega) (by omega)), fun p' hp' => ?_⟩, sv, fun x k q => fr x k (by omega) (by omega), fun p' hp' V' => by
      by_cases e : p' = p
      · rw [e]; exact sv
      · exact V'.cg2 (fun x k a b => fr x k (by
          by_cases d : p' < p
          · left; omega
          · right; omega) (by omega))⟩
    by_cases e : p' = p
    · subst e
      exact Or.inr ⟨by rw [zu_eq]; decide, hp, sv⟩
    · rw [fr 172 p' (by omega) (by omega)]
      rcases hS.2 p' hp' with q | ⟨q1, q2, q3⟩
      · exact Or.inl q
      · refine Or.inr ⟨q1, q2, q3.cg2 (fun x k a b => fr x k ?_ (by omega))⟩
        by_cases d : p' < p
        · left; omega
        · right; omega
  · rw [c1, if_pos (show ¬ zw 1 = 0 by decide), b109_29 (LX0_p p3)] at st
    exact ⟨h, st, hS, c3, fun x k _ => rfl, fun _ _ V' => V'⟩
/-- flat -/
theorem op_flat (hA : wfA A) {p q r y x w : Int} (hp : zint p) (hq : zint q) (hr : zint r) (hy : zint y) (hx : zint x) (hw : zint w) : OpI n 133 214 [zR 1, zI p, zI q, zI r, zI y, zI x, zI w, zN, zN, zN, zN, zN, zN] [zR 202, zI p, zI q, zI r, zI y, zI x, zI w, zN, zN, zN, zN] A := by
  have np := hA.2.1
  have hi := fun (g : zH) => s_inz (S := Z0 n) (h := g) (a := w) (b := 0) (c := 2) hw ⟨by omega, by omega⟩ ⟨by omega, by omega⟩
  have zm1 := zwm1
  by_cases cp : 0 ≤ p ∧ p < aNp A
  case neg =>
    refine ⟨-1000000, fun h hS => ⟨h, ?_, hS, frC.rf⟩, fun g hM => ⟨zu g 202 0 0, ?_, frM0⟩⟩
    · rw [b133_0, hw.e]
      by_cases c : w < 0
      · rw [if_pos c, b133_17]
      · rw [if_neg c]
        by_cases d : 2 < w
        · rw [if_pos d, b133_17]
        · rw [if_neg d, b133_7 (c_isp0 hS hA hp cp), if_pos zw0, b133_17]
    · rw [b214_0, b214_5 ((m_wof (McT0 hM) hA hp).1 cp), if_pos zwm1, b214_25]
  obtain ⟨p, rfl, hp'⟩ := nat_of cp
  have wP := hA.2.2.1 p hp'
  have w1 := wP.1
  by_cases cq : 0 ≤ q ∧ q < aNp A
  case neg =>
    refine ⟨-1000000, fun h hS => ⟨h, ?_, hS, frC.rf⟩, fun g hM => ⟨zu g 202 0 0, ?_, frM0⟩⟩
    · rw [b133_0, hw.e]
      by_cases c : w < 0
      · rw [if_pos c, b133_17]
      · rw [if_neg c]
        by_cases d : 2 < w
        · rw [if_pos d, b133_17]
        · rw [if_neg d, b133_7 (c_isp1 hS hA hp'), if_neg (show ¬ zw 1 = 0 by decide), b133_11 (c_isp0 hS hA hq cq), if_pos zw0, b133_17]
    · rw [b214_0, b214_5 ((m_wof (McT0 hM) hA hp).2 p rfl hp'), zw_nat (by omega), if_neg (by omega), b214_12 ((m_wof (McT0 hM) hA hq).1 cq), zwm1, zw_nat (by omega), if_pos (by omega), b214_25]
  obtain ⟨q, rfl, hq'⟩ := nat_of cq
  have wQ := hA.2.2.1 q hq'
  have w2 := wQ.1
  by_cases cr : 0 ≤ r ∧ r < aNp A
  case neg =>
    refine ⟨-1000000, fun h hS => ⟨h, ?_, hS, frC.rf⟩, fun g hM => ⟨zu g 202 0 0, ?_, frM0⟩⟩
    · rw [b133_0, hw.e]
      by_cases c : w < 0
      · rw [if_pos c, b133_17]
      · rw [if_neg c]
        by_cases d : 2 < w
        · rw [if_pos d, b133_17]
        · rw [if_neg d, b133_7 (c_isp1 hS hA hp'), if_neg (show ¬ zw 1 = 0 by decide), b133_11 (c_isp1 hS hA hq'), if_neg (show ¬ zw 1 = 0 by decide), b133_15 (c_isp0 hS hA hr cr), if_neg (fun q => q zw0), b133_17]
    · rw [b214_0, b214_5 ((m_wof (McT0 hM) hA hp).2 p rfl hp'), zw_nat (n := dW (aPic A p)) (by omega), if_neg (by omega), b214_12 ((m_wof (McT0 hM) hA hq).2 q rfl hq'), zw_nat (n := dW (aPic A q)) (by omega), zw_nat (n := dW (aPic A p)) (by omega)]
      by_cases e : (dW (aPic A q) : Int) = (dW (aPic A p) : Int)
      · rw [if_neg (fun z => z e), b214_17 ((m_wof (McT0 hM) hA hr).1 cr), zwm1, zw_nat (by omega), if_pos (by omega), b214_25]
      · rw [if_pos e, b214_25]
  obtain ⟨r, rfl, hr'⟩ := nat_of cr
  have wR := hA.2.2.1 r hr'
  have w3 := wR.1
  have p3 : p < 3 := by omega
  have q3 : q < 3 := by omega
  have r3 : r < 3 := by omega
  by_cases cw : 0 ≤ w ∧ w ≤ 2
  case neg =>
    refine ⟨-1000000, fun h hS => ⟨h, ?_, hS, frC.rf⟩, fun g hM => ⟨zu g 202 0 0, ?_, frM0⟩⟩
    · rw [b133_0, hw.e]
      by_cases c : w < 0
      · rw [if_pos c, b133_17]
      · rw [if_neg c, if_pos (by omega), b133_17]
    · rw [b214_0, b214_5 ((m_wof (McT0 hM) hA hp).2 p rfl hp'), zw_nat (n := dW (aPic A p)) (by omega), if_neg (by omega), b214_12 ((m_wof (McT0 hM) hA hq).2 q rfl hq'), zw_nat (n := dW (aPic A q)) (by omega), zw_nat (n := dW (aPic A p)) (by omega)]
      by_cases e : (dW (aPic A q) : Int) = (dW (aPic A p) : Int)
      · rw [if_neg (fun z => z e), b214_17 ((m_wof (McT0 hM) hA hr).2 r rfl hr'), zw_nat (n := dW (aPic A r)) (by omega), zw_nat (n := dW (aPic A p)) (by omega)]
        by_cases f : (dW (aPic A r) : Int) = (dW (aPic A p) : Int)
        · rw [if_neg (fun z => z f), b214_23 (hi _), if_neg (fun z => z (zif_pos cw)), b214_25]
        · rw [if_pos f, b214_25]
      · rw [if_pos e, b214_25]
  have cl : ∀ h, ClS h A → ∃ h1, Zx 133 0 [zR 1, zI (p : Int), zI (q : Int), zI (r : Int), zI y, zI x, zI w, zN, zN, zN, zN, zN, zN] [] (Z0 n) h = (if ¬ (dW (aPic A p) : Int) = (dW (aPic A q) : Int) then some (some (zI (-1000000)), Z0 n, h1) else if ¬ (dW (aPic A p) : Int) = (dW (aPic A r) : Int) then some (some (zI (-1000000)), Z0 n, h1) else Zx 133 49 [zN, zN, zN, zN, zI y, zI x, zI w, zR (115 + 19 * p), zR (115 + 19 * q), zR (115 + 19 * r), zN, zN, zN] [zI y, zI x, zR (115 + 19 * p + 1)] (Z0 n) h1) ∧ SvK h1 (115 + 19 * p) (dW (aPic A p)) (dH (aPic A p)) (dN (aPic A p)) (dT (aPic A p)) (dF (aPic A p)) (dG (aPic A p)) ∧ SvK h1 (115 + 19 * q) (dW (aPic A q)) (dH (aPic A q)) (dN (aPic A q)) (dT (aPic A q)) (dF (aPic A q)) (dG (aPic A q)) ∧ SvK h1 (115 + 19 * r) (dW (aPic A r)) (dH (aPic A r)) (dN (aPic A r)) (dT (aPic A r)) (dF (aPic A r)) (dG (aPic A r)) ∧ ClS h1 A ∧ frC h1 h := fun h hS => by
    obtain ⟨h1, e1, S1, V1, f1, k1⟩ := c_htk (n := n) hS hA hp'
    obtain ⟨h2, e2, S2, V2, f2, k2⟩ := c_htk (n := n) S1 hA hq'
    obtain ⟨h3, e3, S3, V3, f3, k3⟩ := c_htk (n := n) S2 hA hr'
    have V1' := k3 p hp' (k2 p hp' V1)
    have V2' := k3 q hq' V2
    refine ⟨h3, ?_, V1', V2', V3, S3, (frC_of f3).tr ((frC_of f2).tr (frC_of f1))⟩
    rw [b133_0, hw.e, if_neg (by omega), if_neg (by omega), b133_7 (c_isp1 hS hA hp'), if_neg (show ¬ zw 1 = 0 by decide), b133_11 (c_isp1 hS hA hq'), if_neg (show ¬ zw 1 = 0 by decide), b133_15 (c_isp1 hS hA hr'), if_pos (show ¬ zw 1 = 0 by decide), b133_21 (LX0_p p3) e1, b133_25 (LX0_p p3) (LX0_p q3) e2, b133_29 (LX0_p p3) (LX0_p q3) (LX0_p r3) e3, V1'.sc.1, V2'.sc.1, V3.sc.1, zw_nat (n := dW (aPic A p)) (by omega), zw_nat (n := dW (aPic A q)) (by omega), zw_nat (n := dW (aPic A r)) (by omega), b133_63]
  have mo : ∀ g, McT g 0 A → ∃ g1, Zx 214 0 [zR 202, zI (p : Int), zI (q : Int), zI (r : Int), zI y, zI x, zI w, zN, zN, zN, zN] [] (Z0 n) g = (if ¬ (dW (aPic A p) : Int) = (dW (aPic A q) : Int) then some (some (zI (-1000000)), Z0 n, g1) else if ¬ (dW (aPic A p) : Int) = (dW (aPic A r) : Int) then some (some (zI (-1000000)), Z0 n, g1) else Zx 214 31 [zR 202, zN, zI (q : Int), zI (r : Int), zI y, zI x, zI w, zN, zN, zN, zN] [zI y, zI x, zI (p : Int), zR 202] (Z0 n) g1) ∧ McT g1 0 A ∧ frM g1 g := fun g hM => by
    refine ⟨zu g 202 0 0, ?_, McT0 hM, frM0⟩
    rw [b214_0, b214_5 ((m_wof (McT0 hM) hA hp).2 p rfl hp'), zw_nat (n := dW (aPic A p)) (by omega), if_neg (by omega), b214_12 ((m_wof (McT0 hM) hA hq).2 q rfl hq'), zw_nat (n := dW (aPic A q)) (by omega), zw_nat (n := dW (aPic A p)) (by omega)]
    by_cases e : (dW (aPic A p) : Int) = (dW (aPic A q) : Int)
    · rw [if_neg (fun z => z e.symm), if_neg (fun z => z e), b214_17 ((m_wof (McT0 hM) hA hr).2 r rfl hr'), zw_nat (n := dW (aPic A r)) (by omega), zw_nat (n := dW (aPic A p)) (by omega)]
      by_cases f : (dW (aPic A p) : Int) = (dW (aPic A r) : Int)
      · rw [if_neg (fun z => z f.symm), if_neg (fun z => z f), b214_23 (hi _), if_pos (zif_neg cw)]
      · rw [if_pos (fun z => f z.symm), if_pos f, b214_25]
    · rw [if_pos (fun z => e z.symm), if_pos e, b214_25]
  by_cases e1 : (dW (aPic A p) : Int) = (dW (aPic A q) : Int)
  case neg =>
    refine ⟨-1000000, fun h hS => ?_, fun g hM => ?_⟩
    · obtain ⟨h1, a1, -, -, -, S1, f1⟩ := cl h hS
      rw [if_pos e1] at a1
      exact ⟨h1, a1, S1, f1⟩
    · obtain ⟨g1, a1, -, f1⟩ := mo g hM
      rw [if_pos e1] at a1
      exact ⟨g1, a1, f1⟩
  by_cases e2 : (dW (aPic A p) : Int) = (dW (aPic A r) : Int)
  case neg =>
    refine ⟨-1000000, fun h hS => ?_, fun g hM => ?_⟩
    · obtain ⟨h1, a1, -, -, -, S1, f1⟩ := cl h hS
      rw [if_neg (fun z => z e1), if_pos e2] at a1
      exact ⟨h1, a1, S1, f1⟩
    · obtain ⟨g1, a1, -, f1⟩ := mo g hM
      rw [if_neg (fun z => z e1), if_pos e2] at a1
      exact ⟨g1, a1, f1⟩
  have cl' : ∀ h, ClS h A → ∃ h1, Zx 133 0 [zR 1, zI (p : Int), zI (q : Int), zI (r : Int), zI y, zI x, zI w, zN, zN, zN, zN, zN, zN] [] (Z0 n) h = Zx 133 49 [zN, zN, zN, zN, zI y, zI x, zI w, zR (115 + 19 * p), zR (115 + 19 * q), zR (115 + 19 * r), zN, zN, zN] [zI y, zI x, zR (115 + 19 * p + 1)] (Z0 n) h1 ∧ SvK h1 (115 + 19 * p) (dW (aPic A p)) (dH (aPic A p)) (dN (aPic A p)) (dT (aPic A p)) (dF (aPic A p)) (dG (aPic A p)) ∧ SvK h1 (115 + 19 * q) (dW (aPic A q)) (dH (aPic A q)) (dN (aPic A q)) (dT (aPic A q)) (dF (aPic A q)) (dG (aPic A q)) ∧ SvK h1 (115 + 19 * r) (dW (aPic A r)) (dH (aPic A r)) (dN (aPic A r)) (dT (aPic A r)) (dF (aPic A r)) (dG (aPic A r)) ∧ ClS h1 A ∧ frC h1 h := fun h hS => by
    obtain ⟨h1, a1, b⟩ := cl h hS
    rw [if_neg (fun z => z e1), if_neg (fun z => z e2)] at a1
    exact ⟨h1, a1, b⟩
  have mo' : ∀ g, McT g 0 A → ∃ g4, frM g4 g ∧ ∃ (a b c : Int), ((mir (aPic A p) x y ∧ a = msm (aPic A p) x y) ∨ (¬ mir (aPic A p) x y ∧ a = -1000000)) ∧ ((mir (aPic A q) x y ∧ b = msm (aPic A q) x y) ∨ (¬ mir (aPic A q) x y ∧ b = -1000000)) ∧ ((mir (aPic A r) x y ∧ c = msm (aPic A r) x y) ∨ (¬ mir (aPic A r) x y ∧ c = -1000000)) ∧ Zx 214 0 [zR 202, zI (p : Int), zI (q : Int), zI (r : Int), zI y, zI x, zI w, zN, zN, zN, zN] [] (Z0 n) g = (if a = -1000000 ∨ b = -1000000 ∨ c = -1000000 then some (some (zI (-1000000)), Z0 n, g4) else if w = 0 then some (some (zI (a + b - c)), Z0 n, g4) else if w = 1 then some (some (zI (a + c - b)), Z0 n, g4) else some (some (zI (b + c - a)), Z0 n, g4)) := fun g hM => by
    obtain ⟨g1, a1, M1, f1⟩ := mo g hM
    rw [if_neg (fun z => z e1), if_neg (fun z => z e2)] at a1
    have one : ∀ (g : zH) (t : Nat), McT g 0 A → t < aNp A → ∃ g2 v, Zx 212 0 [zR 202, zI (t : Int), zI x, zI y] [] (Z0 n) g = some (some (zI v), Z0 n, g2) ∧ ((mir (aPic A t) x y ∧ v = msm (aPic A t) x y) ∨ (¬ mir (aPic A t) x y ∧ v = -1000000)) ∧ (-1000000 ≤ v ∧ v ≤ 1000000) ∧ McT g2 0 A ∧ frM g2 g := fun g t hM ht => by
      obtain ⟨g2, b1, b2, f2⟩ := m_smo (n := n) hM hA ht hx hy
      have M2 : McT g2 0 A := hM.cg (fun x k q1 q2 => f2 x k (by omega))
      by_cases m : mir (aPic A t) x y
      · have mi := msm_in (hA.2.2.1 t ht) m
        exact ⟨g2, _, b1 m, Or.inl ⟨m, rfl⟩, ⟨by omega, by omega⟩, M2, f2⟩
      · exact ⟨g2, _, b2 m, Or.inr ⟨m, rfl⟩, ⟨by omega, by omega⟩, M2, f2⟩
    obtain ⟨g2, a, ea, ra, ba, M2, f2⟩ := one g1 p M1 hp'
    obtain ⟨g3, b, eb, rb, bb, M3, f3⟩ := one g2 q M2 hq'
    obtain ⟨g4, c, ec, rc, bc, M4, f4⟩ := one g3 r M3 hr'
    refine ⟨g4, f4.tr (f3.tr (f2.tr f1)), a, b, c, ra, rb, rc, ?_⟩
    rw [a1, b214_31 ea, b214_37 eb, b214_43 ec, zw_id (z := a) (by omega) (by omega), zw_id (z := b) (by omega) (by omega), zw_id (z := c) (by omega) (by omega), hw.e, b214_54, b214_78, b214_78, b214_78]
    by_cases d1 : a = -1000000
    · rw [if_pos d1, if_pos (Or.inl d1)]
    · rw [if_neg d1]
      by_cases d2 : b = -1000000
      · rw [if_pos d2, if_pos (Or.inr (Or.inl d2))]
      · rw [if_neg d2]
        by_cases d3 : c = -1000000
        · rw [if_neg (fun z => z d3), if_pos (Or.inr (Or.inr d3))]
        · rw [if_pos d3, if_neg (show ¬ (a = -1000000 ∨ b = -1000000 ∨ c = -1000000) by omega)]
          by_cases g0 : w = 0
          · rw [if_neg (fun z => z g0), if_pos g0]
          · rw [if_pos g0, if_neg g0]
            by_cases g1 : w = 1
            · rw [if_neg (fun z => z g1), if_pos g1]
            · rw [if_pos g1, if_neg g1]
  have bad : (¬ mir (aPic A p) x y ∨ ¬ mir (aPic A q) x y ∨ ¬ mir (aPic A r) x y) → ∀ h, ClS h A → ∃ h', Zx 133 0 [zR 1, zI (p : Int), zI (q : Int), zI (r : Int), zI y, zI x, zI w, zN, zN, zN, zN, zN, zN] [] (Z0 n) h = some (some (zI (-1000000)), Z0 n, h') ∧ ClS h' A ∧ frC h' h := fun bd h hS => by
    obtain ⟨h1, a1, V1, V2, V3, S1, f1⟩ := cl' h hS
    refine ⟨h1, ?_, S1, f1⟩
    rw [a1]
    by_cases m1 : mir (aPic A p) x y
    · rw [b133_49 (LX0_p p3) (LX0_p q3) (LX0_p r3) (LX0_p p3).scene ((c_mir (LX0_p p3) wP V1 hx hy).1 m1).1, if_neg (show ¬ zw 1 = 0 by decide)]
      by_cases m2 : mir (aPic A q) x y
      · rw [b133_55 (LX0_p p3) (LX0_p q3) (LX0_p r3) (LX0_p q3).scene ((c_mir (LX0_p q3) wQ V2 hx hy).1 m2).1, if_neg (show ¬ zw 1 = 0 by decide)]
        have m3 : ¬ mir (aPic A r) x y := by
          rcases bd with z | z | z
          · exact absurd m1 z
          · exact absurd m2 z
          · exact z
        rw [b133_61 (LX0_p p3) (LX0_p q3) (LX0_p r3) (LX0_p r3).scene ((c_mir (LX0_p r3) wR V3 hx hy).2 m3), if_neg (fun z => z zw0), b133_63]
      · rw [b133_55 (LX0_p p3) (LX0_p q3) (LX0_p r3) (LX0_p q3).scene ((c_mir (LX0_p q3) wQ V2 hx hy).2 m2), if_pos zw0, b133_63]
    · rw [b133_49 (LX0_p p3) (LX0_p q3) (LX0_p r3) (LX0_p p3).scene ((c_mir (LX0_p p3) wP V1 hx hy).2 m1), if_pos zw0, b133_63]
  by_cases m1 : mir (aPic A p) x y
  case neg =>
    refine ⟨-1000000, bad (Or.inl m1), fun g hM => ?_⟩
    obtain ⟨g4, f4, a, b, c, ra, rb, rc, e⟩ := mo' g hM
    rcases ra with ⟨z, -⟩ | ⟨-, z⟩
    · exact absurd z m1
    · rw [if_pos (Or.inl z)] at e
      exact ⟨g4, e, f4⟩
  by_cases m2 : mir (aPic A q) x y
  case neg =>
    refine ⟨-1000000, bad (Or.inr (Or.inl m2)), fun g hM => ?_⟩
    obtain ⟨g4, f4, a, b, c, ra, rb, rc, e⟩ := mo' g hM
    rcases rb with ⟨z, -⟩ | ⟨-, z⟩
    · exact absurd z m2
    · rw [if_pos (Or.inr (Or.inl z))] at e
      exact ⟨g4, e, f4⟩
  by_cases m3 : mir (aPic A r) x y
  case neg =>
    refine ⟨-1000000, bad (Or.inr (Or.inr m3)), fun g hM => ?_⟩
    obtain ⟨g4, f4, a, b, c, ra, rb, rc, e⟩ := mo' g hM
    rcases rc with ⟨z, -⟩ | ⟨-, z⟩
    · exact absurd z m3
    · rw [if_pos (Or.inr (Or.inr z))] at e
      exact ⟨g4, e, f4⟩
  have i1 := msm_in wP m1
  have i2 := msm_in wQ m2
  have i3 := msm_in wR m3
  refine ⟨if w = 0 then msm (aPic A p) x y + msm (aPic A q) x y - msm (aPic A r) x y else if w = 1 then msm (aPic A p) x y + msm (aPic A r) x y - msm (aPic A q) x y else msm (aPic A q) x y + msm (aPic A r) x y - msm (aPic A p) x y, fun h hS => ?_, fun g hM => ?_⟩
  · obtain ⟨h1, a1, V1, V2, V3, S1, f1⟩ := cl' h hS
    refine ⟨h1, ?_, S1, f1⟩
    obtain ⟨c1, d1⟩ := (c_mir (n := n) (LX0_p p3) wP V1 hx hy).1 m1
    obtain ⟨c2, d2⟩ := (c_mir (n := n) (LX0_p q3) wQ V2 hx hy).1 m2
    obtain ⟨c3, d3⟩ := (c_mir (n := n) (LX0_p r3) wR V3 hx hy).1 m3
    rw [a1, b133_49 (LX0_p p3) (LX0_p q3) (LX0_p r3) (LX0_p p3).scene c1, if_neg (show ¬ zw 1 = 0 by decide), b133_55 (LX0_p p3) (LX0_p q3) (LX0_p r3) (LX0_p q3).scene c2, if_neg (show ¬ zw 1 = 0 by decide), b133_61 (LX0_p p3) (LX0_p q3) (LX0_p r3) (LX0_p r3).scene c3, if_pos (show ¬ zw 1 = 0 by decide), b133_68 (LX0_p q3) (LX0_p r3) (LX0_p p3) d1, b133_73 (LX0_p r3) (LX0_p q3) d2, b133_78 (LX0_p r3) d3, hw.e]
    rcases (by omega : w = 0 ∨ w = 1 ∨ w = 2) with e | e | e <;> subst e
    · show Zx 133 82 _ _ _ _ = _
      refine (Zx_nm (L' := [zN, zN, zN, zN, zN, zN, zN, zN, zN, zN, zI (msm (aPic A p) x y), zI (msm (aPic A q) x y), zI (msm (aPic A r) x y)]) rfl rfl).trans ?_
      rw [b133_82, if_pos rfl]
    · show Zx 133 88 _ _ _ _ = _
      refine (Zx_nm (L' := [zN, zN, zN, zN, zN, zN, zN, zN, zN, zN, zI (msm (aPic A p) x y), zI (msm (aPic A q) x y), zI (msm (aPic A r) x y)]) rfl rfl).trans ?_
      rw [b133_88, if_neg (by decide), if_pos rfl]
    · show Zx 133 94 _ _ _ _ = _
      refine (Zx_nm (L' := [zN, zN, zN, zN, zN, zN, zN, zN, zN, zN, zI (msm (aPic A p) x y), zI (msm (aPic A q) x y), zI (msm (aPic A r) x y)]) rfl rfl).trans ?_
      rw [b133_94, if_neg (by decide), if_neg (by decide)]
  · obtain ⟨g4, f4, a, b, c, ra, rb, rc, e⟩ := mo' g hM
    have ea : a = msm (aPic A p) x y := by
      rcases ra with ⟨-, z⟩ | ⟨z, -⟩
      · exact z
      · exact absurd m1 z
    have eb : b = msm (aPic A q) x y := by
      rcases rb with ⟨-, z⟩ | ⟨z, -⟩
      · exact z
      · exact absurd m2 z
    have ec : c = msm (aPic A r) x y := by
      rcases rc with ⟨-, z⟩ | ⟨z, -⟩
      · exact z
      · exact absurd m3 z
    subst ea; subst eb; subst ec
    refine ⟨g4, ?_, f4⟩
    rw [e, if_neg (by omega)]
    by_cases g0 : w = 0
    · rw [if_pos g0, if_pos g0]
    · rw [if_neg g0, if_neg g0]
      by_cases g1 : w = 1
      · rw [if_pos g1, if_pos g1]
      · rw [if_neg g1, if_neg g1]
end FLB
