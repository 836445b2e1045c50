/-! QUESTIONS, one after another: both sides -/
section OPA
variable {n : Nat} {h : zH} {A : aS}
theorem dN25 {D : pD} (hw : wfD D) : 4 ≤ dN D ∧ dN D ≤ 25 := by
  have a := Nat.mul_le_mul hw.1.1 hw.2.1.1
  have b := Nat.mul_le_mul hw.1.2 hw.2.1.2
  exact ⟨a, b⟩
theorem frC_of {h' : zH} (f : ∀ x k, (x < 115 ∨ 172 < x) → h' x k = h x k) : frC h' h := fun x k q => f x k (by omega)
/-- FringeBench.isPixel -/
theorem c_ipx (hS : ClS h A) (hA : wfA A) {p : Nat} (hp : p < aNp A) {k : Int} (hk : zint k) : Zx 105 0 [zR 1, zI (p : Int), zI k] [] (Z0 n) h = some (some (zI (if 0 ≤ k ∧ k < dN (aPic A p) then 1 else 0)), Z0 n, h) := by
  have np := hA.2.1
  have p3 : p < 3 := by omega
  have hP := hS.1.2.2.2.1 p hp
  rw [show 2 + 3 + 5 * p = 5 + 5 * p by omega] at hP
  have hN := dN25 (hA.2.2.1 p hp)
  have ip := c_isp (n := n) hS hA (p := (p : Int)) ⟨by omega, by omega⟩
  rw [if_pos (by omega)] at ip
  have sz := b30_0 (S := Z0 n) (h := h) (LX2_p (n := n) p3)
  rw [hP.1, hP.2.1, ← Int.natCast_mul] at sz
  rw [b105_0, b105_2 ip (by intros; omega) (by intros; omega) (fun _ _ => pic3 p3) (LX2_p p3), if_neg (show ¬ zw 1 = 0 by decide), hk.e]
  by_cases c : k < 0
  · rw [if_pos c, b105_16, b105_17 (Or.inl rfl), if_neg (by omega)]
  · rw [if_neg c, b105_12 (LX2_p p3) sz, hk.e]
    have e : zw ((dW (aPic A p) * dH (aPic A p) : Nat) : Int) = (dN (aPic A p) : Int) := zw_nat (n := dW (aPic A p) * dH (aPic A p)) (Nat.le_trans hN.2 (by decide))
    rw [e]
    by_cases d : (dN (aPic A p) : Int) ≤ k
    · rw [if_pos d, b105_16, b105_17 (Or.inl rfl), if_neg (by omega)]
    · rw [if_neg d, b105_17 (Or.inr rfl), if_pos (by omega)]
theorem c_isp0 (hS : ClS h A) (hA : wfA A) {p : Int} (hp : zint p) (hn : ¬ (0 ≤ p ∧ p < aNp A)) : Zx 104 0 [zR 1, zI p] [] (Z0 n) h = some (some (zI 0), Z0 n, h) := by
  have := c_isp (n := n) hS hA hp
  rw [if_neg hn] at this
  exact this
theorem c_isp1 (hS : ClS h A) (hA : wfA A) {p : Nat} (hp : p < aNp A) : Zx 104 0 [zR 1, zI (p : Int)] [] (Z0 n) h = some (some (zI 1), Z0 n, h) := by
  have np := hA.2.1
  have := c_isp (n := n) hS hA (p := (p : Int)) ⟨by omega, by omega⟩
  rw [if_pos (by omega)] at this
  exact this
theorem c_ipx0 (hS : ClS h A) (hA : wfA A) {p k : Int} (hp : zint p) (hn : ¬ (0 ≤ p ∧ p < aNp A)) : Zx 105 0 [zR 1, zI p, zI k] [] (Z0 n) h = some (some (zI 0), Z0 n, h) := by
  rw [b105_0, b105_2 (q0 := 5) (c_isp0 hS hA hp hn) (fun q => absurd zw0 q) (fun q => absurd zw0 q) (fun q => absurd zw0 q) (LX2_5 n), if_pos zw0, b105_16, b105_17 (Or.inl rfl)]
/-- FringeBench.isThere -/
theorem c_ith (hS : ClS h A) (hA : wfA A) {p : Nat} (hp : p < aNp A) {k : Int} (hk : zint k) : ∃ h', Zx 106 0 [zR 1, zI (p : Int), zI k] [] (Z0 n) h = some (some (zI (if 0 ≤ k ∧ k < dN (aPic A p) ∧ dT (aPic A p) k.toNat = true then 1 else 0)), Z0 n, h') ∧ ClS h' A ∧ frC h' h := by
  have np := hA.2.1
  have p3 : p < 3 := by omega
  have hN := dN25 (hA.2.2.1 p hp)
  have ip := c_ipx (n := n) hS hA hp hk
  by_cases c : 0 ≤ k ∧ k < dN (aPic A p)
  · rw [if_pos c] at ip
    obtain ⟨h1, e1, S1, V1, f1⟩ := c_hts (n := n) hS hA hp
    have th := V1.sc.th (k := k.toNat) (by omega)
    refine ⟨h1, ?_, S1, frC_of f1⟩
    rw [b106_0, b106_3 ip, if_neg (show ¬ zw 1 = 0 by decide), b106_7 (LX0_p p3) e1 (by intros; omega) (by intros; omega)]
    by_cases d : zw (zb1 (h1 (115 + 19 * p + 2) k.toNat)) = 0
    · have := th.mp d
      rw [if_pos d, b106_15, b106_16 (Or.inl rfl), if_neg (fun q => by rw [this] at q; exact Bool.noConfusion q.2.2)]
    · have tk : dT (aPic A p) k.toNat = true := by
        cases q : dT (aPic A p) k.toNat
        · exact absurd (th.mpr q) d
        · rfl
      rw [if_neg d, b106_16 (Or.inr rfl), if_pos ⟨c.1, c.2, tk⟩]
  · rw [if_neg c] at ip
    refine ⟨h, ?_, hS, frC.rf⟩
    rw [b106_0, b106_3 ip, if_pos zw0, b106_15, b106_16 (Or.inl rfl), if_neg (fun q => c ⟨q.1, q.2.1⟩)]
theorem c_ith0 (hS : ClS h A) (hA : wfA A) {p k : Int} (hp : zint p) (hn : ¬ (0 ≤ p ∧ p < aNp A)) : Zx 106 0 [zR 1, zI p, zI k] [] (Z0 n) h = some (some (zI 0), Z0 n, h) := by
  rw [b106_0, b106_3 (c_ipx0 hS hA hp hn), if_pos zw0, b106_15, b106_16 (Or.inl rfl)]
/-- FringeBench.isPart -/
theorem c_ipt (hS : ClS h A) (hA : wfA A) {p : Nat} (hp : p < aNp A) {k : Int} (hk : zint k) : ∃ h', Zx 107 0 [zR 1, zI (p : Int), zI k] [] (Z0 n) h = some (some (zI (if 0 ≤ k ∧ k < pM (dN (aPic A p)) (dW (aPic A p)) (dT (aPic A p)) then 1 else 0)), Z0 n, h') ∧ ClS h' A ∧ frC h' h := by
  have np := hA.2.1
  have p3 : p < 3 := by omega
  have m25 := pM25 (wfS_D (hA.2.2.1 p hp))
  rw [b107_0, b107_2 (c_isp1 hS hA hp), if_neg (show ¬ zw 1 = 0 by decide), hk.e]
  by_cases c : k < 0
  · refine ⟨h, ?_, hS, frC.rf⟩
    rw [if_pos c, b107_15, b107_16 (Or.inl rfl), if_neg (by omega)]
  · obtain ⟨h1, e1, S1, V1, f1⟩ := c_hts (n := n) hS hA hp
    refine ⟨h1, ?_, S1, frC_of f1⟩
    rw [if_neg c, b107_9 (LX0_p p3) e1, V1.pm, hk.e, zw_nat (by omega)]
    by_cases d : (pM (dN (aPic A p)) (dW (aPic A p)) (dT (aPic A p)) : Int) ≤ k
    · rw [if_pos d, b107_15, b107_16 (Or.inl rfl), if_neg (by omega)]
    · rw [if_neg d, b107_16 (Or.inr rfl), if_pos (by omega)]
theorem c_ipt0 (hS : ClS h A) (hA : wfA A) {p k : Int} (hp : zint p) (hn : ¬ (0 ≤ p ∧ p < aNp A)) : Zx 107 0 [zR 1, zI p, zI k] [] (Z0 n) h = some (some (zI 0), Z0 n, h) := by
  rw [b107_0, b107_2 (c_isp0 hS hA hp hn), if_pos zw0, b107_15, b107_16 (Or.inl rfl)]
theorem nat_of {p : Int} {m : Nat} (h : 0 ≤ p ∧ p < m) : ∃ q : Nat, p = (q : Int) ∧ q < m := ⟨p.toNat, by omega, by omega⟩
theorem frM0 {g : zH} {v : Int} : frM (zu g 202 0 v) g := fun x k q => by rw [zu_off (by omega)]
theorem McT0 {g : zH} {v : Int} {k : Nat} (hM : McT g 0 A) : McT (zu g 202 k v) 0 A := hM.cg (fun x k q1 q2 => by rw [zu_off (by omega)])
/-- above -/
theorem op_above (hA : wfA A) {p y : Int} (hp : zint p) (hy : zint y) : OpI n 120 229 [zR 1, zI p, zI y] [zR 202, zI p, zI y, zN, zN] A := by
  by_cases c : 0 ≤ p ∧ p < aNp A
  case neg =>
    refine ⟨-1, fun h hS => ⟨h, ?_, hS, frC.rf⟩, fun g hM => ⟨zu g 202 0 0, ?_, frM0⟩⟩
    · rw [b120_0, b120_2 (c_isp0 hS hA hp c), if_pos zw0, b120_11]
    · rw [b229_0, b229_5 (m_lay0 (McT0 hM) hA hp c), if_neg (fun q => q zw0)]
  obtain ⟨p, rfl, hp'⟩ := nat_of c
  have np := hA.2.1
  have p3 : p < 3 := by omega
  have hD := wfS_D (hA.2.2.1 p hp')
  have h25 := hD.2.2.2.1
  refine ⟨su (fun k => if dT (aPic A p) k = true ∧ y < hgt (dF (aPic A p)) (ctl (dN (aPic A p)) (dW (aPic A p)) (dT (aPic A p)) (dF (aPic A p)) (dG (aPic A p))) k then 1 else 0) (dN (aPic A p)), fun h hS => ?_, fun g hM => ?_⟩
  · obtain ⟨h1, e1, S1, V1, f1⟩ := c_hts (n := n) hS hA hp'
    refine ⟨h1, ?_, S1, frC_of f1⟩
    rw [b120_0, b120_2 (c_isp1 hS hA hp'), if_neg (show ¬ zw 1 = 0 by decide), b120_6 (LX0_p p3) e1, b120_8 (LX0_p p3) (s_cab (LX0_p p3) V1 hD hy), b120_11]
  · obtain ⟨g1, e1, H1, V1, n1, f1⟩ := m_layP (n := n) (McT0 (v := 0) (k := 0) hM) hA hp'
    refine ⟨g1, ?_, f1.tr frM0⟩
    rw [b229_0, b229_5 e1, if_pos (show ¬ zw 1 = 0 by decide)]
    have e23 := V1.1.2.2.1
    refine (z_chain (N := dN (aPic A p)) (X := fun k => Zx 229 13 [zR 202, zN, zI y, zI (su (fun k => if dT (aPic A p) k = true ∧ y < hgt (dF (aPic A p)) (ctl (dN (aPic A p)) (dW (aPic A p)) (dT (aPic A p)) (dF (aPic A p)) (dG (aPic A p))) k then 1 else 0) k), zI (k : Int)] [] (Z0 n) g1) (fun k hk => ?_)).trans ?_
    · show Zx 229 13 _ _ _ _ = Zx 229 13 _ _ _ _
      have th := V1.1.th hk
      rw [b229_13 (by intros; omega) (by intros; omega), e23, zw_nat (by omega), zw_nat (by omega), if_neg (by omega), Int.toNat_natCast]
      by_cases c : zw (zb1 (g1 216 k)) = 0
      · rw [if_pos c, b229_30, b229_31, su, if_neg (show ¬ (dT (aPic A p) k = true ∧ _) from fun q => by rw [th.mp c] at q; exact Bool.noConfusion q.1)]
        rfl
      · have tk : dT (aPic A p) k = true := by
          cases q : dT (aPic A p) k
          · exact absurd (th.mpr q) c
          · rfl
        have hh := V1.hin hD hk tk
        rw [if_neg c, b229_25 (m_hgt V1 hD hk tk), hy.e, zw_id (z := hgt (dF (aPic A p)) (ctl (dN (aPic A p)) (dW (aPic A p)) (dT (aPic A p)) (dF (aPic A p)) (dG (aPic A p))) k) (by omega) (by omega), su]
        by_cases d : hgt (dF (aPic A p)) (ctl (dN (aPic A p)) (dW (aPic A p)) (dT (aPic A p)) (dF (aPic A p)) (dG (aPic A p))) k ≤ y
        · rw [if_pos d, b229_30, b229_31, if_neg (show ¬ (dT (aPic A p) k = true ∧ y < _) from fun q => by omega)]
          rfl
        · rw [if_neg d, b229_31, if_pos (show dT (aPic A p) k = true ∧ y < _ from ⟨tk, by omega⟩)]
          rfl
    · show Zx 229 13 _ _ _ _ = _
      rw [b229_13 (by rw [e23]; intro q; exact absurd (Int.le_refl _) q) (by rw [e23]; intro q; exact absurd (Int.le_refl _) q), e23, if_pos (Int.le_refl _)]
/-- part -/
theorem op_part (hA : wfA A) {p k w : Int} (hp : zint p) (hk : zint k) (hw : zint w) : OpI n 122 202 [zR 1, zI p, zI k, zI w, zN] [zR 202, zI p, zI k, zI w] A := by
  have bad1 : ∀ h, ClS h A → (w < 0 ∨ 4 < w) → Zx 122 0 [zR 1, zI p, zI k, zI w, zN] [] (Z0 n) h = some (some (zI (-1000000)), Z0 n, h) := fun h hS q => by
    rw [b122_0, hw.e]
    by_cases c : w < 0
    · rw [if_pos c, b122_10]
    · rw [if_neg c, if_pos (by omega), b122_10]
  by_cases c : 0 ≤ p ∧ p < aNp A
  case neg =>
    refine ⟨-1000000, fun h hS => ⟨h, ?_, hS, frC.rf⟩, fun g hM => ⟨zu g 202 0 0, ?_, frM0⟩⟩
    · by_cases d : w < 0 ∨ 4 < w
      · exact bad1 h hS d
      · rw [b122_0, hw.e, if_neg (by omega), if_neg (by omega), b122_8 (c_ipt0 hS hA hp c), if_neg (fun q => q zw0), b122_10]
    · rw [b202_0, b202_5 (m_lay0 (McT0 hM) hA hp c), if_pos zw0, b202_15]
  obtain ⟨p, rfl, hp'⟩ := nat_of c
  have np := hA.2.1
  have p3 : p < 3 := by omega
  have hD := wfS_D (hA.2.2.1 p hp')
  have h25 := hD.2.2.2.1
  have m25 := pM25 hD
  by_cases ck : 0 ≤ k ∧ k < pM (dN (aPic A p)) (dW (aPic A p)) (dT (aPic A p))
  case neg =>
    refine ⟨-1000000, fun h hS => ?_, fun g hM => ?_⟩
    · by_cases d : w < 0 ∨ 4 < w
      · exact ⟨h, bad1 h hS d, hS, frC.rf⟩
      · obtain ⟨h1, e1, S1, f1⟩ := c_ipt (n := n) hS hA hp' hk
        rw [if_neg ck] at e1
        refine ⟨h1, ?_, S1, f1⟩
        rw [b122_0, hw.e, if_neg (by omega), if_neg (by omega), b122_8 e1, if_neg (fun q => q zw0), b122_10]
    · obtain ⟨g1, e1, H1, V1, n1, f1⟩ := m_layP (n := n) (McT0 (v := 0) (k := 0) hM) hA hp'
      refine ⟨g1, ?_, f1.tr frM0⟩
      have hi := s_inz (S := Z0 n) (h := g1) (a := k) (b := 0) (c := (pM (dN (aPic A p)) (dW (aPic A p)) (dT (aPic A p)) : Int) - 1) hk ⟨by omega, by omega⟩ ⟨by omega, by omega⟩
      rw [b202_0, b202_5 e1, if_neg (show ¬ zw 1 = 0 by decide), V1.2.1.1, b202_13 hi, if_neg (fun q => q (zif_pos (fun z => ck ⟨z.1, by omega⟩))), b202_15]
  obtain ⟨k, rfl, hk'⟩ := nat_of ck
  have cl : ∀ h, ClS h A → 0 ≤ w → w ≤ 4 → ∃ h1, Zx 122 0 [zR 1, zI (p : Int), zI (k : Int), zI w, zN] [] (Z0 n) h = Zx 122 (zfind w [(0, 18), (1, 23), (2, 28), (3, 32)] 36) [zN, zN, zI (k : Int), zI w, zR (115 + 19 * p)] [] (Z0 n) h1 ∧ SvK h1 (115 + 19 * p) (dW (aPic A p)) (dH (aPic A p)) (dN (aPic A p)) (dT (aPic A p)) (dF (aPic A p)) (dG (aPic A p)) ∧ ClS h1 A ∧ frC h1 h := fun h hS w1 w2 => by
    obtain ⟨h1, e1, S1, f1⟩ := c_ipt (n := n) hS hA hp' hk
    rw [if_pos (by omega)] at e1
    obtain ⟨h2, e2, S2, V2, f2⟩ := c_hts (n := n) S1 hA hp'
    refine ⟨h2, ?_, V2, S2, (frC_of f2).tr f1⟩
    rw [b122_0, hw.e, if_neg (by omega), if_neg (by omega), b122_8 e1, if_pos (show ¬ zw 1 = 0 by decide), b122_14 (LX0_p p3) e2, hw.e]
  have mo : ∀ g, McT g 0 A → ∃ g1, Zx 202 0 [zR 202, zI (p : Int), zI (k : Int), zI w] [] (Z0 n) g = Zx 202 (zfind w [(0, 19), (1, 23), (2, 27), (3, 31), (4, 35)] 43) [zR 202, zN, zI (k : Int), zI w] [] (Z0 n) g1 ∧ RtD g1 (aPic A p) ∧ frM g1 g := fun g hM => by
    obtain ⟨g1, e1, H1, V1, n1, f1⟩ := m_layP (n := n) (McT0 (v := 0) (k := 0) hM) hA hp'
    refine ⟨g1, ?_, V1, f1.tr frM0⟩
    have hi := s_inz (S := Z0 n) (h := g1) (a := (k : Int)) (b := 0) (c := (pM (dN (aPic A p)) (dW (aPic A p)) (dT (aPic A p)) : Int) - 1) hk ⟨by omega, by omega⟩ ⟨by omega, by omega⟩
    rw [b202_0, b202_5 e1, if_neg (show ¬ zw 1 = 0 by decide), V1.2.1.1, b202_13 hi, if_pos (zif_neg (by omega)), hw.e]
  by_cases cw : w < 0 ∨ 4 < w
  · refine ⟨-1000000, fun h hS => ⟨h, bad1 h hS cw, hS, frC.rf⟩, fun g hM => ?_⟩
    obtain ⟨g1, e1, V1, f1⟩ := mo g hM
    refine ⟨g1, ?_, f1⟩
    rw [e1, zfind, if_neg (by omega), zfind, if_neg (by omega), zfind, if_neg (by omega), zfind, if_neg (by omega), zfind, if_neg (by omega), zfind]
    refine (Zx_nm (L' := [zN, zN, zN, zN]) rfl rfl).trans ?_
    rw [b202_43]
  rcases (by omega : w = 0 ∨ w = 1 ∨ w = 2 ∨ w = 3 ∨ w = 4) with e | e | e | e | e <;> subst e
  · refine ⟨su (fun i => if dT (aPic A p) i = true ∧ pP (dN (aPic A p)) (dW (aPic A p)) (dT (aPic A p)) i = (k : Int) then 1 else 0) (dN (aPic A p)), fun h hS => ?_, fun g hM => ?_⟩
    · obtain ⟨h1, e1, V1, S1, f1⟩ := cl h hS (by omega) (by omega)
      refine ⟨h1, ?_, S1, f1⟩
      rw [e1]
      show Zx 122 18 _ _ _ _ = _
      refine (Zx_nm (L' := [zN, zN, zI (k : Int), zN, zR (115 + 19 * p)]) rfl rfl).trans ?_
      rw [b122_18 (LX0_p p3), b122_21 (LX0_p p3).scene (s_sof (LX0_p p3).scene V1.sc h25 (pf := pP (dN (aPic A p)) (dW (aPic A p)) (dT (aPic A p))) (fun i hi ti => ⟨(V1.pw hi ti).1, by have := pP_in hD hi ti; omega, by have := pP_in hD hi ti; omega⟩) (by omega))]
    · obtain ⟨g1, e1, V1, f1⟩ := mo g hM
      refine ⟨g1, ?_, f1⟩
      rw [e1]
      show Zx 202 19 _ _ _ _ = _
      refine (Zx_nm (L' := [zR 202, zN, zI (k : Int), zN]) rfl rfl).trans ?_
      rw [b202_19, b202_21 (m_siz V1 hD (by omega))]
  · refine ⟨fst (fun i => dT (aPic A p) i && decide (pP (dN (aPic A p)) (dW (aPic A p)) (dT (aPic A p)) i = (k : Int))) (dN (aPic A p)), fun h hS => ?_, fun g hM => ?_⟩
    · obtain ⟨h1, e1, V1, S1, f1⟩ := cl h hS (by omega) (by omega)
      refine ⟨h1, ?_, S1, f1⟩
      rw [e1]
      show Zx 122 23 _ _ _ _ = _
      refine (Zx_nm (L' := [zN, zN, zI (k : Int), zN, zR (115 + 19 * p)]) rfl rfl).trans ?_
      rw [b122_23 (LX0_p p3), b122_26 (LX0_p p3).scene (s_lpo (LX0_p p3).scene V1.sc h25 (pf := pP (dN (aPic A p)) (dW (aPic A p)) (dT (aPic A p))) (fun i hi ti => ⟨(V1.pw hi ti).1, by have := pP_in hD hi ti; omega, by have := pP_in hD hi ti; omega⟩) (by omega))]
    · obtain ⟨g1, e1, V1, f1⟩ := mo g hM
      refine ⟨g1, ?_, f1⟩
      rw [e1]
      show Zx 202 23 _ _ _ _ = _
      refine (Zx_nm (L' := [zR 202, zN, zI (k : Int), zN]) rfl rfl).trans ?_
      rw [b202_23, b202_25 (m_roP V1 hD ⟨by omega, by omega⟩)]
      have : (fun i => decide ((if dT (aPic A p) i = true then pP (dN (aPic A p)) (dW (aPic A p)) (dT (aPic A p)) i else -1) = (k : Int))) = (fun i => dT (aPic A p) i && decide (pP (dN (aPic A p)) (dW (aPic A p)) (dT (aPic A p)) i = (k : Int))) := by
        funext i
        cases ti : dT (aPic A p) i
        · rw [if_neg (by decide)]; exact decide_eq_false (by omega)
        · rw [if_pos rfl]; rfl
      rw [this]
  · refine ⟨plo (dN (aPic A p)) (dW (aPic A p)) (dT (aPic A p)) (dF (aPic A p)) (ctl (dN (aPic A p)) (dW (aPic A p)) (dT (aPic A p)) (dF (aPic A p)) (dG (aPic A p))) (k : Int) (dN (aPic A p)), fun h hS => ?_, fun g hM => ?_⟩
    · obtain ⟨h1, e1, V1, S1, f1⟩ := cl h hS (by omega) (by omega)
      refine ⟨h1, ?_, S1, f1⟩
      rw [e1]
      show Zx 122 28 _ _ _ _ = _
      refine (Zx_nm (L' := [zN, zN, zI (k : Int), zN, zR (115 + 19 * p)]) rfl rfl).trans ?_
      rw [b122_28 (LX0_p p3), b122_30 (LX0_p p3) (s_plo (LX0_p p3) V1 hD ⟨by omega, by omega⟩)]
    · obtain ⟨g1, e1, V1, f1⟩ := mo g hM
      refine ⟨g1, ?_, f1⟩
      rw [e1]
      show Zx 202 27 _ _ _ _ = _
      refine (Zx_nm (L' := [zR 202, zN, zI (k : Int), zN]) rfl rfl).trans ?_
      rw [b202_27, b202_29 (m_low V1 hD hk')]
  · refine ⟨phi (dN (aPic A p)) (dW (aPic A p)) (dT (aPic A p)) (dF (aPic A p)) (ctl (dN (aPic A p)) (dW (aPic A p)) (dT (aPic A p)) (dF (aPic A p)) (dG (aPic A p))) (k : Int) (dN (aPic A p)), fun h hS => ?_, fun g hM => ?_⟩
    · obtain ⟨h1, e1, V1, S1, f1⟩ := cl h hS (by omega) (by omega)
      refine ⟨h1, ?_, S1, f1⟩
      rw [e1]
      show Zx 122 32 _ _ _ _ = _
      refine (Zx_nm (L' := [zN, zN, zI (k : Int), zN, zR (115 + 19 * p)]) rfl rfl).trans ?_
      rw [b122_32 (LX0_p p3), b122_34 (LX0_p p3) (s_phi (LX0_p p3) V1 hD ⟨by omega, by omega⟩)]
    · obtain ⟨g1, e1, V1, f1⟩ := mo g hM
      refine ⟨g1, ?_, f1⟩
      rw [e1]
      show Zx 202 31 _ _ _ _ = _
      refine (Zx_nm (L' := [zR 202, zN, zI (k : Int), zN]) rfl rfl).trans ?_
      rw [b202_31, b202_33 (m_hig V1 hD hk')]
  · refine ⟨phi (dN (aPic A p)) (dW (aPic A p)) (dT (aPic A p)) (dF (aPic A p)) (ctl (dN (aPic A p)) (dW (aPic A p)) (dT (aPic A p)) (dF (aPic A p)) (dG (aPic A p))) (k : Int) (dN (aPic A p)) - plo (dN (aPic A p)) (dW (aPic A p)) (dT (aPic A p)) (dF (aPic A p)) (ctl (dN (aPic A p)) (dW (aPic A p)) (dT (aPic A p)) (dF (aPic A p)) (dG (aPic A p))) (k : Int) (dN (aPic A p)), fun h hS => ?_, fun g hM => ?_⟩
    · obtain ⟨h1, e1, V1, S1, f1⟩ := cl h hS (by omega) (by omega)
      refine ⟨h1, ?_, S1, f1⟩
      rw [e1]
      show Zx 122 36 _ _ _ _ = _
      refine (Zx_nm (L' := [zN, zN, zI (k : Int), zN, zR (115 + 19 * p)]) rfl rfl).trans ?_
      rw [b122_36 (LX0_p p3), b122_38 (LX0_p p3) (LX0_p p3) (s_phi (LX0_p p3) V1 hD ⟨by omega, by omega⟩), b122_41 (LX0_p p3) (s_plo (LX0_p p3) V1 hD ⟨by omega, by omega⟩)]
    · obtain ⟨g1, e1, V1, f1⟩ := mo g hM
      refine ⟨g1, ?_, f1⟩
      rw [e1]
      show Zx 202 35 _ _ _ _ = _
      refine (Zx_nm (L' := [zR 202, zN, zI (k : Int), zN]) rfl rfl).trans ?_
      rw [b202_35, b202_37 (m_hig V1 hD hk'), b202_40 (m_low V1 hD hk')]
end OPA
