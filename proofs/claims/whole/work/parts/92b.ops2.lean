/-! QUESTIONS: pixel, height, differ, heavy, dim, solid -/
section OPB
variable {n : Nat} {h : zH} {A : aS}
noncomputable abbrev dZ (D : pD) : Int := czo (dN D) (dW D) (dT D) (dF D) (dG D)
noncomputable abbrev dTl (D : pD) : Nat → Int := ctl (dN D) (dW D) (dT D) (dF D) (dG D)
noncomputable abbrev dTg (D : pD) : Nat → Int := ctg (dN D) (dW D) (dT D) (dF D) (dG D)
/-- findCost of the supposed scene -/
theorem c_cost {W H N : Nat} {T : Nat → Bool} {F G : Nat → Int} (hS : ScC h 174 W H N T F G) (hw : wfS W H N T F G) : ∃ h', Zx 2 0 [zR 173, zN, zN] [] (Z0 n) h = some (some (zI (czo N W T F G)), Z0 n, h') ∧ ScC h' 174 W H N T F G ∧ h' 174 6 = (pM N W T : Int) ∧ ∀ x k, (x < 173 ∨ 191 < x) → h' x k = h x k := by
  obtain ⟨z, f, h', e, hf, fr⟩ := s_fco (S := Z0 n) (LX0_173 n) hS hw
  have ez : z = czo N W T F G := hf.2.2.2.2.1.uniq (cz_C hw)
  exact ⟨h', by rw [e, ez], hf.1, hf.2.1, fr⟩
theorem wfS_G {W H N : Nat} {T : Nat → Bool} {F G : Nat → Int} (hw : wfS W H N T F G) {k : Nat} {w : Int} (h1 : 1 ≤ w ∧ w ≤ 9) : wfS W H N T F (fu G k w) := by
  obtain ⟨a, b, c, d, e⟩ := hw
  refine ⟨a, b, c, d, fun i hi => ?_⟩
  obtain ⟨e1, e2, e3⟩ := e i hi
  refine ⟨e1, e2, ?_⟩
  by_cases q : i = k
  · rw [q, fu_same]; exact h1
  · rw [fu_ne q]; exact e3
/-- heavy -/
theorem op_heavy (hA : wfA A) {p k w : Int} (hp : zint p) (hk : zint k) (hw : zint w) : OpI n 126 207 [zR 1, zI p, zI k, zI w, zN] [zR 202, zI p, zI k, zI w] A := by
  have bad1 : ∀ h, ClS h A → (w < 1 ∨ 9 < w) → Zx 126 0 [zR 1, zI p, zI k, zI w, zN] [] (Z0 n) h = some (some (zI (-1)), Z0 n, h) := fun h hS q => by
    rw [b126_0, hw.e]
    by_cases c : w < 1
    · rw [if_pos c, b126_11]
    · rw [if_neg c, if_pos (by omega), b126_11]
  by_cases c : 0 ≤ p ∧ p < aNp A
  case neg =>
    refine ⟨-1, fun h hS => ⟨h, ?_, hS, frC.rf⟩, fun g hM => ⟨zu g 202 0 0, ?_, frM0⟩⟩
    · by_cases d : w < 1 ∨ 9 < w
      · exact bad1 h hS d
      · rw [b126_0, hw.e, if_neg (by omega), if_neg (by omega), b126_9 (c_ipx0 hS hA hp c), if_neg (fun q => q zw0), b126_11]
    · rw [b207_0, b207_5 (m_han0 (McT0 hM) hA hp c), if_pos zw0, b207_20]
  obtain ⟨p, rfl, hp'⟩ := nat_of c
  have np := hA.2.1
  have p3 : p < 3 := by omega
  have hD := wfS_D (hA.2.2.1 p hp')
  have h25 := hD.2.2.2.1
  have mo : ∀ g, McT g 0 A → ∃ g1, Zx 207 0 [zR 202, zI (p : Int), zI k, zI w] [] (Z0 n) g = (if 0 ≤ k ∧ k < dN (aPic A p) then (if 1 ≤ w ∧ w ≤ 9 then Zx 207 28 [zR 202, zN, zN, zN] [zR 202] (Z0 n) (zu g1 212 k.toNat w) else some (some (zI (-1)), Z0 n, g1)) else some (some (zI (-1)), Z0 n, g1)) ∧ RfD g1 (aPic A p) ∧ frM g1 g := fun g hM => by
    obtain ⟨g1, e1, H1, R1, n1, f1⟩ := m_han (n := n) (McT0 (v := 0) (k := 0) hM) hA hp'
    refine ⟨g1, ?_, R1, f1.tr frM0⟩
    have hi := s_inz (S := Z0 n) (h := g1) (a := k) (b := 0) (c := (dN (aPic A p) : Int) - 1) hk ⟨by omega, by omega⟩ ⟨by omega, by omega⟩
    have hj := s_inz (S := Z0 n) (h := g1) (a := w) (b := 1) (c := 9) hw ⟨by omega, by omega⟩ ⟨by omega, by omega⟩
    rw [b207_0, b207_5 e1, if_neg (show ¬ zw 1 = 0 by decide), R1.2.2.1, b207_13 hi]
    by_cases d : 0 ≤ k ∧ k < dN (aPic A p)
    · rw [if_neg (zif_neg (by omega)), if_pos d, b207_18 hj (by intros; omega) (by intros; omega)]
      by_cases d2 : 1 ≤ w ∧ w ≤ 9
      · rw [if_pos (zif_neg d2), if_pos d2]
      · rw [if_neg (fun q => q (zif_pos d2)), if_neg d2, b207_20]
    · rw [if_pos (zif_pos (by omega)), if_neg d, b207_20]
  by_cases ck : 0 ≤ k ∧ k < dN (aPic A p)
  case neg =>
    refine ⟨-1, fun h hS => ⟨h, ?_, hS, frC.rf⟩, fun g hM => ?_⟩
    · by_cases d : w < 1 ∨ 9 < w
      · exact bad1 h hS d
      · have ip := c_ipx (n := n) hS hA hp' hk
        rw [if_neg ck] at ip
        rw [b126_0, hw.e, if_neg (by omega), if_neg (by omega), b126_9 ip, if_neg (fun q => q zw0), b126_11]
    · obtain ⟨g1, e1, V1, f1⟩ := mo g hM
      rw [if_neg ck] at e1
      exact ⟨g1, e1, f1⟩
  by_cases cw : 1 ≤ w ∧ w ≤ 9
  case neg =>
    refine ⟨-1, fun h hS => ⟨h, bad1 h hS (by omega), hS, frC.rf⟩, fun g hM => ?_⟩
    obtain ⟨g1, e1, V1, f1⟩ := mo g hM
    rw [if_pos ck, if_neg cw] at e1
    exact ⟨g1, e1, f1⟩
  obtain ⟨k, rfl, hk'⟩ := nat_of ck
  have hD2 := wfS_G hD (k := k) cw
  refine ⟨czo (dN (aPic A p)) (dW (aPic A p)) (dT (aPic A p)) (dF (aPic A p)) (fu (dG (aPic A p)) k w), fun h hS => ?_, fun g hM => ?_⟩
  · have ip := c_ipx (n := n) hS hA hp' hk
    rw [if_pos (by omega)] at ip
    obtain ⟨h1, e1, s1, f1⟩ := c_sup (n := n) hS hA hp'
    have s2 : ScC (zu h1 177 k w) 174 (dW (aPic A p)) (dH (aPic A p)) (dN (aPic A p)) (dT (aPic A p)) (dF (aPic A p)) (fu (dG (aPic A p)) k w) := by
      obtain ⟨a, b, c, d⟩ := s1
      refine ⟨by rw [zu_off (by omega)]; exact a, by rw [zu_off (by omega)]; exact b, by rw [zu_off (by omega)]; exact c, fun i hi => ?_⟩
      obtain ⟨d1, d2, d3⟩ := d i hi
      refine ⟨by rw [zu_off (by omega)]; exact d1, by rw [zu_off (by omega)]; exact d2, ?_⟩
      by_cases q : i = k
      · rw [q, fu_same]; exact zu_eq
      · rw [fu_ne q, zu_off (by omega)]; exact d3
    obtain ⟨h2, e2, -, -, f2⟩ := c_cost (n := n) s2 hD2
    have fr : ∀ x i, (x < 173 ∨ 191 < x) → h2 x i = h x i := fun x i q => by
      rw [f2 x i q, zu_off (by omega)]; exact f1 x i (by omega)
    refine ⟨h2, ?_, hS.cg hA (fun x i q => fr x i (by omega)), fun x i q => fr x i (by omega)⟩
    rw [b126_0, hw.e, if_neg (by omega), if_neg (by omega), b126_9 ip, if_pos (show ¬ zw 1 = 0 by decide), b126_15 (LX0_173 n) e1 (by omega) (by omega), Int.toNat_natCast, b126_24 (LX0_173 n) e2]
  · obtain ⟨g1, e1, R1, f1⟩ := mo g hM
    rw [if_pos ck, if_pos cw, Int.toNat_natCast] at e1
    have R2 : RfC (zu g1 212 k w) (dW (aPic A p)) (dH (aPic A p)) (dN (aPic A p)) (dT (aPic A p)) (dF (aPic A p)) (fu (dG (aPic A p)) k w) := by
      obtain ⟨a, b, c, d, e⟩ := R1
      refine ⟨by rw [zu_off (by omega)]; exact a, by rw [zu_off (by omega)]; exact b, by rw [zu_off (by omega)]; exact c, fun i hi => ?_, fun i hi hi2 => by rw [zu_off (by omega)]; exact e i hi hi2⟩
      obtain ⟨d1, d2, d3⟩ := d i hi
      refine ⟨by rw [zu_off (by omega)]; exact d1, by rw [zu_off (by omega)]; exact d2, ?_⟩
      by_cases q : i = k
      · rw [q, fu_same]; exact zu_eq
      · rw [fu_ne q, zu_off (by omega)]; exact d3
    obtain ⟨g2, z, tl, tg, e2, V2, f2⟩ := m_ftu (n := n) R2 hD2
    refine ⟨g2, ?_, fun x i q => ?_⟩
    · rw [e1, b207_28 e2, (V2.cn hD2).2.2.2.2.1]
    · rw [f2 x i (by omega) (by omega), zu_off (by omega)]; exact f1 x i q
/-- dim -/
theorem op_dim (hA : wfA A) {p l w : Int} (hp : zint p) (hl : zint l) (hw : zint w) : OpI n 129 233 [zR 1, zI p, zI l, zI w, zN] [zR 202, zI p, zI l, zI w] A := by
  have hi := fun (g : zH) => s_inz (S := Z0 n) (h := g) (a := l) (b := 1) (c := 198) hl ⟨by omega, by omega⟩ ⟨by omega, by omega⟩
  have hj := fun (g : zH) => s_inz (S := Z0 n) (h := g) (a := w) (b := 0) (c := 2) hw ⟨by omega, by omega⟩ ⟨by omega, by omega⟩
  by_cases cl : (1 ≤ l ∧ l ≤ 198) ∧ 0 ≤ w ∧ w ≤ 2
  case neg =>
    refine ⟨-1, fun h hS => ⟨h, ?_, hS, frC.rf⟩, fun g hM => ⟨zu g 202 0 0, ?_, frM0⟩⟩
    · by_cases c : 0 ≤ p ∧ p < aNp A
      · obtain ⟨p, rfl, hp'⟩ := nat_of c
        have np := hA.2.1
        have p3 : p < 3 := by omega
        rw [b129_0, b129_2 (c_isp1 hS hA hp') (by intros; omega) (by intros; omega) (fun _ _ _ _ _ => pic3 p3) (LX2_p p3), if_neg (show ¬ zw 1 = 0 by decide), hl.e, hw.e]
        by_cases d1 : l < 1
        · rw [if_pos d1, b129_15]
        · rw [if_neg d1]
          by_cases d2 : 198 < l
          · rw [if_pos d2, b129_15]
          · rw [if_neg d2]
            by_cases d3 : w < 0
            · rw [if_pos d3, b129_15]
            · rw [if_neg d3, if_neg (by omega), b129_15]
      · rw [b129_0, b129_2 (q0 := 5) (c_isp0 hS hA hp c) (fun q => absurd zw0 q) (fun q => absurd zw0 q) (fun q => absurd zw0 q) (LX2_5 n), if_pos zw0, b129_15]
    · rw [b233_0, b233_6 (hi _)]
      by_cases d1 : 1 ≤ l ∧ l ≤ 198
      · rw [if_neg (zif_neg d1), b233_11 (hj _), if_pos (zif_pos (fun z => cl ⟨d1, z⟩)), b233_17]
      · rw [if_pos (zif_pos d1), b233_17]
  obtain ⟨cl1, cl2⟩ := cl
  by_cases c : 0 ≤ p ∧ p < aNp A
  case neg =>
    refine ⟨-1, fun h hS => ⟨h, ?_, hS, frC.rf⟩, fun g hM => ⟨zu g 202 0 0, ?_, frM0⟩⟩
    · rw [b129_0, b129_2 (q0 := 5) (c_isp0 hS hA hp c) (fun q => absurd zw0 q) (fun q => absurd zw0 q) (fun q => absurd zw0 q) (LX2_5 n), if_pos zw0, b129_15]
    · rw [b233_0, b233_6 (hi _), if_neg (zif_neg cl1), b233_11 (hj _), if_neg (zif_neg cl2), b233_15 (m_han0 (McT0 hM) hA hp c), if_neg (fun q => q zw0), b233_17]
  obtain ⟨p, rfl, hp'⟩ := nat_of c
  have np := hA.2.1
  have p3 : p < 3 := by omega
  have hP0 := hA.2.2.1 p hp'
  have hP2 : wfP (dW (aPic A p)) (dH (aPic A p)) l (dS (aPic A p)) (dG (aPic A p)) (dP (aPic A p)) := ⟨hP0.1, hP0.2.1, cl1, hP0.2.2.2.1, hP0.2.2.2.2⟩
  have hD := wfS_of (l2 := l) (ho := dO (aPic A p)) hP2
  have m25 := pM25 hD
  have cls : ∀ h, ClS h A → ∃ h1, Zx 129 0 [zR 1, zI (p : Int), zI l, zI w, zN] [] (Z0 n) h = (if ¬ w = 0 then (if ¬ w = 1 then some (some (zI (czo (dN (aPic A p)) (dW (aPic A p)) (thr (dS (aPic A p)) (dP (aPic A p)) (dO (aPic A p)) l) (phs (dS (aPic A p)) (dP (aPic A p)) l) (dG (aPic A p)))), Z0 n, h1) else some (some (zI (pM (dN (aPic A p)) (dW (aPic A p)) (thr (dS (aPic A p)) (dP (aPic A p)) (dO (aPic A p)) l))), Z0 n, h1)) else some (some (zI (cnT (dN (aPic A p)) (thr (dS (aPic A p)) (dP (aPic A p)) (dO (aPic A p)) l))), Z0 n, h1)) ∧ ClS h1 A ∧ frC h1 h := fun h hS => by
    have hP := hS.1.2.2.2.1 p hp'
    rw [show 2 + 3 + 5 * p = 5 + 5 * p by omega] at hP
    obtain ⟨h1, e1, s1, f1⟩ := s_tak (S := Z0 n) (l2 := l) (LX0_173 n).scene (LX2_p p3) (by omega) hP hP0 hl
    obtain ⟨h2, e2, s2, pm2, f2⟩ := c_cost (n := n) s1 hD
    have fr : ∀ x i, (x < 173 ∨ 191 < x) → h2 x i = h x i := fun x i q => by
      rw [f2 x i q]; exact f1 x i (by omega)
    refine ⟨h2, ?_, hS.cg hA (fun x i q => fr x i (by omega)), fun x i q => fr x i (by omega)⟩
    rw [b129_0, b129_2 (c_isp1 hS hA hp') (by intros; omega) (by intros; omega) (fun _ _ _ _ _ => pic3 p3) (LX2_p p3), if_neg (show ¬ zw 1 = 0 by decide), hl.e, hw.e, if_neg (by omega), if_neg (by omega), if_neg (by omega), if_pos (by omega), b129_26 (LX0_173 n).scene (LX2_p p3) e1, b129_29 (LX0_173 n) e2, hw.e, pm2, b129_47, b129_47, b129_36 (LX0_173 n).scene (s_cth (LX0_173 n).scene s2 hD.2.2.2.1)]
    rfl
  have mo : ∀ g, McT g 0 A → ∃ g1, Zx 233 0 [zR 202, zI (p : Int), zI l, zI w] [] (Z0 n) g = (if ¬ w = 0 then (if ¬ w = 1 then some (some (zI (czo (dN (aPic A p)) (dW (aPic A p)) (thr (dS (aPic A p)) (dP (aPic A p)) (dO (aPic A p)) l) (phs (dS (aPic A p)) (dP (aPic A p)) l) (dG (aPic A p)))), Z0 n, g1) else some (some (zI (pM (dN (aPic A p)) (dW (aPic A p)) (thr (dS (aPic A p)) (dP (aPic A p)) (dO (aPic A p)) l))), Z0 n, g1)) else some (some (zI (cnT (dN (aPic A p)) (thr (dS (aPic A p)) (dP (aPic A p)) (dO (aPic A p)) l))), Z0 n, g1)) ∧ frM g1 g := fun g hM => by
    obtain ⟨g1, e1, H1, R1, n1, f1⟩ := m_han (n := n) (McT0 (v := 0) (k := 0) hM) hA hp'
    have H2 : HdC (zu g1 202 22 l) (dW (aPic A p)) (dH (aPic A p)) l (dS (aPic A p)) (dG (aPic A p)) (dP (aPic A p)) (dO (aPic A p)) := by
      obtain ⟨a, b, c, d, e, f⟩ := H1
      refine ⟨by rw [zu_off (by omega)]; exact a, by rw [zu_off (by omega)]; exact b, zu_eq, by rw [zu_off (by omega)]; exact d, fun i hi => by rw [zu_off (by omega)]; exact e i hi, fun i hi => ?_⟩
      rw [zu_off (by omega), zu_off (by omega), zu_off (by omega)]
      exact f i hi
    obtain ⟨g2, e2, H3, R3, n3, -, f3⟩ := m_fph (n := n) H2 hP2
    obtain ⟨g4, z, tl, tg, e4, V4, f4⟩ := m_ftu (n := n) R3 hD
    refine ⟨g4, ?_, fun x i q => ?_⟩
    · rw [b233_0, b233_6 (hi _), if_neg (zif_neg cl1), b233_11 (hj _), if_neg (zif_neg cl2), b233_15 e1, if_pos (show ¬ zw 1 = 0 by decide), b233_23 e2, b233_25 e4, hw.e, (V4.cn hD).2.2.2.2.1, V4.2.1.1, f4 202 30 (by omega) (by omega), n3, b233_39, b233_39, b233_39]
      rfl
    · rw [f4 x i (by omega) (by omega), f3 x i (by omega) (by omega) (by omega), zu_off (by omega), f1 x i q]
      exact frM0 x i q
  refine ⟨if ¬ w = 0 then (if ¬ w = 1 then czo (dN (aPic A p)) (dW (aPic A p)) (thr (dS (aPic A p)) (dP (aPic A p)) (dO (aPic A p)) l) (phs (dS (aPic A p)) (dP (aPic A p)) l) (dG (aPic A p)) else (pM (dN (aPic A p)) (dW (aPic A p)) (thr (dS (aPic A p)) (dP (aPic A p)) (dO (aPic A p)) l) : Int)) else cnT (dN (aPic A p)) (thr (dS (aPic A p)) (dP (aPic A p)) (dO (aPic A p)) l), fun h hS => ?_, fun g hM => ?_⟩
  · obtain ⟨h1, e1, S1, f1⟩ := cls h hS
    refine ⟨h1, ?_, S1, f1⟩
    rw [e1]
    by_cases d : w = 0
    · rw [if_neg (fun z => z d), if_neg (fun z => z d)]
    · rw [if_pos d, if_pos d]
      by_cases d : w = 1
      · rw [if_neg (fun z => z d), if_neg (fun z => z d)]
      · rw [if_pos d, if_pos d]
  · obtain ⟨h1, e1, f1⟩ := mo g hM
    refine ⟨h1, ?_, f1⟩
    rw [e1]
    by_cases d : w = 0
    · rw [if_neg (fun z => z d), if_neg (fun z => z d)]
    · rw [if_pos d, if_pos d]
      by_cases d : w = 1
      · rw [if_neg (fun z => z d), if_neg (fun z => z d)]
      · rw [if_pos d, if_pos d]
/-- solid -/
theorem op_solid (hA : wfA A) {p w : Int} (hp : zint p) (hw : zint w) : OpI n 130 234 [zR 1, zI p, zI w, zN, zN] [zR 202, zI p, zI w] A := by
  have hi := fun (g : zH) => s_inz (S := Z0 n) (h := g) (a := w) (b := 1) (c := 9) hw ⟨by omega, by omega⟩ ⟨by omega, by omega⟩
  by_cases c : 0 ≤ p ∧ p < aNp A
  case neg =>
    refine ⟨-1, fun h hS => ⟨h, ?_, hS, frC.rf⟩, fun g hM => ⟨zu g 202 0 0, ?_, frM0⟩⟩
    · rw [b130_0, b130_2 (c_isp0 hS hA hp c), if_pos zw0, b130_10]
    · rw [b234_0, b234_6 (hi _)]
      by_cases d : 1 ≤ w ∧ w ≤ 9
      · rw [if_neg (zif_neg d), b234_10 (m_han0 (McT0 hM) hA hp c), if_neg (fun q => q zw0), b234_12]
      · rw [if_pos (zif_pos d), b234_12]
  obtain ⟨p, rfl, hp'⟩ := nat_of c
  by_cases cw : 1 ≤ w ∧ w ≤ 9
  case neg =>
    refine ⟨-1, fun h hS => ⟨h, ?_, hS, frC.rf⟩, fun g hM => ⟨zu g 202 0 0, ?_, frM0⟩⟩
    · rw [b130_0, b130_2 (c_isp1 hS hA hp'), if_neg (show ¬ zw 1 = 0 by decide), hw.e]
      by_cases d : w < 1
      · rw [if_pos d, b130_10]
      · rw [if_neg d, if_neg (by omega), b130_10]
    · rw [b234_0, b234_6 (hi _), if_pos (zif_pos cw), b234_12]
  have np := hA.2.1
  have p3 : p < 3 := by omega
  have hD := wfS_D (hA.2.2.1 p hp')
  have h25 := hD.2.2.2.1
  refine ⟨pM (dN (aPic A p)) (dW (aPic A p)) (fun k => dT (aPic A p) k && decide (w ≤ dG (aPic A p) k)), fun h hS => ?_, fun g hM => ?_⟩
  · obtain ⟨h1, e1, s1, f1⟩ := c_sup (n := n) hS hA hp'
    obtain ⟨a, b, c, d⟩ := s1
    obtain ⟨h2, e2, i1, i2⟩ := z_inv (N := dN (aPic A p)) (X := fun k (u : zH) => Zx 130 19 [zN, zN, zI w, zR 174, zI (k : Int)] [] (Z0 n) u) (I := fun k u => (∀ i, i < dN (aPic A p) → zb1 (u 175 i) = if (dT (aPic A p) i && (decide (k ≤ i) || decide (w ≤ dG (aPic A p) i))) = true then 1 else 0) ∧ ∀ x i, x ≠ 175 → u x i = h1 x i) (s := h1) ⟨fun i hi => by
      rw [decide_eq_true (Nat.zero_le i), Bool.true_or, Bool.and_true]
      exact (d i hi).1, fun x i _ => rfl⟩ (fun k u hk Iu => by
      obtain ⟨i1, i2⟩ := Iu
      have gk := (hD.2.2.2.2 k hk).2.2
      have e2 : u 174 2 = (dN (aPic A p) : Int) := by rw [i2 _ _ (by omega)]; exact c
      have e3 : u 177 k = dG (aPic A p) k := by rw [i2 _ _ (by omega)]; exact (d k hk).2.2
      have st := b130_19 (n := n) (h := u) (l2 := w) (l3 := 174) (l4 := (k : Int)) (LX0_173 n).scene (by intros; omega) (by intros; omega) (by intros; omega) (by intros; omega)
      rw [e2, zw_nat (by omega), zw_nat (by omega), if_neg (by omega), Int.toNat_natCast, e3, hw.e, zw_id (z := dG (aPic A p) k) (by omega) (by omega)] at st
      by_cases q : w ≤ dG (aPic A p) k
      · rw [if_pos q, b130_34 (LX0_173 n).scene] at st
        refine ⟨u, st, fun i hi => ?_, i2⟩
        rw [i1 i hi]
        by_cases e : i = k
        · subst e
          rw [decide_eq_true q, Bool.or_true, Bool.or_true]
        · by_cases f : k ≤ i
          · rw [decide_eq_true f, decide_eq_true (show k + 1 ≤ i by omega)]
          · rw [decide_eq_false f, decide_eq_false (show ¬ k + 1 ≤ i by omega)]
      · rw [if_neg q, b130_34 (LX0_173 n).scene] at st
        refine ⟨zu u 175 k 0, st, fun i hi => ?_, fun x i q => by rw [zu_off (by omega)]; exact i2 x i q⟩
        by_cases e : i = k
        · subst e
          rw [zu_eq, decide_eq_false q, decide_eq_false (show ¬ i + 1 ≤ i by omega), Bool.or_false, Bool.and_false, if_neg (by decide)]
          decide
        · rw [zu_off (by omega), i1 i hi]
          by_cases f : k ≤ i
          · rw [decide_eq_true f, decide_eq_true (show k + 1 ≤ i by omega)]
          · rw [decide_eq_false f, decide_eq_false (show ¬ k + 1 ≤ i by omega)])
    have s2 : ScC h2 174 (dW (aPic A p)) (dH (aPic A p)) (dN (aPic A p)) (fun k => dT (aPic A p) k && decide (w ≤ dG (aPic A p) k)) (dF (aPic A p)) (dG (aPic A p)) := by
      refine ⟨by rw [i2 _ _ (by omega)]; exact a, by rw [i2 _ _ (by omega)]; exact b, by rw [i2 _ _ (by omega)]; exact c, fun i hi => ⟨?_, by rw [i2 _ _ (by omega)]; exact (d i hi).2.1, by rw [i2 _ _ (by omega)]; exact (d i hi).2.2⟩⟩
      rw [i1 i hi, decide_eq_false (show ¬ dN (aPic A p) ≤ i by omega), Bool.false_or]
    have hD2 : wfS (dW (aPic A p)) (dH (aPic A p)) (dN (aPic A p)) (fun k => dT (aPic A p) k && decide (w ≤ dG (aPic A p) k)) (dF (aPic A p)) (dG (aPic A p)) := by
      obtain ⟨w1, w2, w3, w4, w5⟩ := hD
      refine ⟨w1, w2, w3, w4, fun k hk => ⟨(w5 k hk).1, fun q => ?_, (w5 k hk).2.2⟩⟩
      rw [Bool.and_eq_true] at q
      exact (w5 k hk).2.1 q.1
    obtain ⟨B, R, e3⟩ := s_wlk (S := Z0 n) (LX0_173 n).scene s2 hD2
    have fr : ∀ x i, (x < 174 ∨ 181 < x) → hk 174 ((wst (dN (aPic A p)) (dW (aPic A p)) (fun k => dT (aPic A p) k && decide (w ≤ dG (aPic A p) k)) (dF (aPic A p)) (fun _ => false, h2 (174 + 4), 0, h2 (174 + 5)) (dN (aPic A p))).2.2.1 : Int) (wst (dN (aPic A p)) (dW (aPic A p)) (fun k => dT (aPic A p) k && decide (w ≤ dG (aPic A p) k)) (dF (aPic A p)) (fun _ => false, h2 (174 + 4), 0, h2 (174 + 5)) (dN (aPic A p))).2.1 (wst (dN (aPic A p)) (dW (aPic A p)) (fun k => dT (aPic A p) k && decide (w ≤ dG (aPic A p) k)) (dF (aPic A p)) (fun _ => false, h2 (174 + 4), 0, h2 (174 + 5)) (dN (aPic A p))).2.2.2 B R h2 x i = h x i := fun x i q => by
      rw [hk_o (by omega), i2 x i (by omega)]; exact f1 x i (by omega)
    refine ⟨_, ?_, hS.cg hA (fun x i q => fr x i (by omega)), fun x i q => fr x i (by omega)⟩
    rw [b130_0, b130_2 (c_isp1 hS hA hp'), if_neg (show ¬ zw 1 = 0 by decide), hw.e, if_neg (by omega), if_pos (by omega), b130_14 (LX0_173 n) e1]
    refine e2.trans ?_
    show Zx 130 19 _ _ _ _ = _
    have e2n : h2 174 2 = (dN (aPic A p) : Int) := by rw [i2 _ _ (by omega)]; exact c
    rw [b130_19 (LX0_173 n).scene (by rw [e2n]; intro q; exact absurd (Int.le_refl _) q) (by rw [e2n]; intro q; exact absurd (Int.le_refl _) q) (by rw [e2n]; intro q; exact absurd (Int.le_refl _) q) (by rw [e2n]; intro q; exact absurd (Int.le_refl _) q), e2n, if_pos (Int.le_refl _), b130_37 (LX0_173 n).scene (LX0_173 n).scene e3, hk_m, wst_p.1]
  · obtain ⟨g1, e1, H1, R1, n1, f1⟩ := m_han (n := n) (McT0 (v := 0) (k := 0) hM) hA hp'
    obtain ⟨g2, e2, c2, -, f2⟩ := m_fpa (n := n) (hv := w) R1 hD hw
    refine ⟨g2, ?_, fun x i q => ?_⟩
    · rw [b234_0, b234_6 (hi _), if_neg (zif_neg cw), b234_10 e1, if_pos (show ¬ zw 1 = 0 by decide), b234_16 e2, c2]
    · rw [f2 x i (by omega) (by omega), f1 x i q]
      exact frM0 x i q
end OPB
