/-! QUESTIONS: stitch -/
section OPT
variable {n : Nat} {h : zH} {A : aS}
theorem m_isp0 (hM : McT h 0 A) (hA : wfA A) {p : Int} (hp : zint p) (hn : ¬ (0 ≤ p ∧ p < aNp A)) : Zx 143 0 [zR 202, zI p] [] (Z0 n) h = some (some (zI 0), Z0 n, h) := by
  rw [m_isp hM hA hp, if_neg hn]
theorem m_isp1 (hM : McT h 0 A) (hA : wfA A) {p : Nat} (hp : p < aNp A) : Zx 143 0 [zR 202, zI (p : Int)] [] (Z0 n) h = some (some (zI 1), Z0 n, h) := by
  have np := hA.2.1
  rw [m_isp hM hA (p := (p : Int)) ⟨by omega, by omega⟩, if_pos (by omega)]
/-- two pictures' heights, and the one laid on the other -/
theorem c_two (hS : ClS h A) (hA : wfA A) {p q : Nat} (hp : p < aNp A) (hq : q < aNp A) {dx dy : Int} (hdx : -4 ≤ dx ∧ dx ≤ 4) (hdy : -4 ≤ dy ∧ dy ≤ 4) : ∃ h1 h2 h3, Zx 109 0 [zR 1, zI (p : Int), zN, zN] [] (Z0 n) h = some (some (zR (115 + 19 * p)), Z0 n, h1) ∧ Zx 109 0 [zR 1, zI (q : Int), zN, zN] [] (Z0 n) h1 = some (some (zR (115 + 19 * q)), Z0 n, h2) ∧ Zx 86 0 [zR 201, zR (115 + 19 * p), zR (115 + 19 * q), zI dx, zI dy, zN, zN, zN, zN] [] (Z0 n) h2 = some (none, Z0 n, h3) ∧ ClS h3 A ∧ StC h3 (stS (aPic A p) (aPic A q) dx dy (dN (aPic A q))) ∧ frC h3 h := by
  have np := hA.2.1
  obtain ⟨h1, e1, S1, V1, f1, k1⟩ := c_htk (n := n) hS hA hp
  obtain ⟨h2, e2, S2, V2, f2, k2⟩ := c_htk (n := n) S1 hA hq
  obtain ⟨h3, e3, C3, f3⟩ := c_lay (n := n) (hA.2.2.1 p hp) (hA.2.2.1 q hq) (LX0_p (by omega)) (LX0_p (by omega)) (by omega) (k2 p hp V1) V2 hdx hdy
  exact ⟨h1, h2, h3, e1, e2, e3, S2.cg hA (fun x k _ => f3 x k (by omega)), C3, fun x k a => by rw [f3 x k (by omega), f2 x k (by omega)]; exact f1 x k (by omega)⟩
theorem stS_0 {D1 D2 : pD} (h1 : wfD D1) (h2 : wfD D2) {dx dy : Int} : ∀ k, k ≤ dN D2 → (stS D1 D2 dx dy k).1 = 0 → (stS D1 D2 dx dy k).2.2.2 - (stS D1 D2 dx dy k).2.2.1 = 0
  | 0, _, _ => rfl
  | k + 1, hk, e => by
    have i := stS_in h1 h2 (dx := dx) (dy := dy) k (by omega)
    unfold stS at e ⊢
    by_cases c : stc D1 D2 dx dy k = true
    · rw [if_pos c] at e
      have : (stS D1 D2 dx dy k).1 + 1 = 0 := e
      omega
    · rw [if_neg c] at e ⊢
      exact stS_0 h1 h2 k (by omega) e
/-- the reference's part -/
theorem m_two (hM : McT h 0 A) (hA : wfA A) {p q : Nat} (hp : p < aNp A) (hq : q < aNp A) : ∃ h1 h2, Zx 208 0 [zR 202, zI (q : Int), zN] [] (Z0 n) h = some (some (zI 1), Z0 n, h1) ∧ Zx 187 0 [zR 202, zI (p : Int)] [] (Z0 n) h1 = some (some (zI 1), Z0 n, h2) ∧ RtD h2 (aPic A p) ∧ AsC h2 (aPic A q) ∧ frM h2 h := by
  obtain ⟨h1, e1, A1, f1⟩ := m_asd (n := n) hM hA hq
  obtain ⟨h2, e2, R2, f2, k2⟩ := m_lay2 (n := n) (hM.cg (fun x k a b => f1 x k (by omega))) hA hp
  exact ⟨h1, h2, e1, e2, R2, A1.cg (hA.2.2.1 q hq) (fun x k a => k2 x k (by omega)), f2.tr f1⟩
/-- stitch -/
theorem op_stitch (hA : wfA A) {p q dx dy w : Int} (hp : zint p) (hq : zint q) (hx : zint dx) (hy : zint dy) (hw : zint w) : OpI n 131 210 [zR 1, zI p, zI q, zI dx, zI dy, zI w] [zR 202, zI p, zI q, zI dx, zI dy, zI w, zN] A := by
  have np := hA.2.1
  have ix := fun (g : zH) => s_inz (S := Z0 n) (h := g) (a := dx) (b := -4) (c := 4) hx ⟨by omega, by omega⟩ ⟨by omega, by omega⟩
  have iy := fun (g : zH) => s_inz (S := Z0 n) (h := g) (a := dy) (b := -4) (c := 4) hy ⟨by omega, by omega⟩ ⟨by omega, by omega⟩
  have iw := fun (g : zH) => s_inz (S := Z0 n) (h := g) (a := w) (b := 0) (c := 2) hw ⟨by omega, by omega⟩ ⟨by omega, by omega⟩
  have z1 : ¬ zw 1 = 0 := by decide
  by_cases cp : 0 ≤ p ∧ p < aNp A
  case neg =>
    refine ⟨-1000000, fun h hS => ⟨h, ?_, hS, frC.rf⟩, fun g hM => ⟨zu g 202 0 0, ?_, frM0⟩⟩
    · rw [b131_0, b131_2 (c_isp0 hS hA hp cp), if_pos zw0, b131_25]
    · rw [b210_0, b210_5 (m_isp0 (McT0 hM) hA hp cp), if_pos zw0, b210_26]
  obtain ⟨p, rfl, hp'⟩ := nat_of cp
  by_cases cq : 0 ≤ q ∧ q < aNp A
  case neg =>
    refine ⟨-1000000, fun h hS => ⟨h, ?_, hS, frC.rf⟩, fun g hM => ⟨zu g 202 0 0, ?_, frM0⟩⟩
    · rw [b131_0, b131_2 (c_isp1 hS hA hp'), if_neg z1, b131_6 (c_isp0 hS hA hq cq), if_pos zw0, b131_25]
    · rw [b210_0, b210_5 (m_isp1 (McT0 hM) hA hp'), if_neg z1, b210_9 (m_isp0 (McT0 hM) hA hq cq), if_pos zw0, b210_26]
  obtain ⟨q, rfl, hq'⟩ := nat_of cq
  by_cases good : (0 ≤ w ∧ w ≤ 2) ∧ (-4 ≤ dx ∧ dx ≤ 4) ∧ -4 ≤ dy ∧ dy ≤ 4
  case neg =>
    refine ⟨-1000000, fun h hS => ⟨h, ?_, hS, frC.rf⟩, fun g hM => ⟨zu g 202 0 0, ?_, frM0⟩⟩
    · rw [b131_0, b131_2 (c_isp1 hS hA hp'), if_neg z1, b131_6 (c_isp1 hS hA hq'), if_neg z1, hw.e, hx.e, hy.e]
      repeat' split
      all_goals first | exact b131_25 | omega
    · rw [b210_0, b210_5 (m_isp1 (McT0 hM) hA hp'), if_neg z1, b210_9 (m_isp1 (McT0 hM) hA hq'), if_neg z1, b210_14 (ix _)]
      by_cases c1 : -4 ≤ dx ∧ dx ≤ 4
      case neg => rw [if_pos (zif_pos c1), b210_26]
      rw [if_neg (zif_neg c1), b210_19 (iy _)]
      by_cases c2 : -4 ≤ dy ∧ dy ≤ 4
      case neg => rw [if_pos (zif_pos c2), b210_26]
      rw [if_neg (zif_neg c2), b210_24 (iw _), if_neg (fun z => z (zif_pos (by omega))), b210_26]
  obtain ⟨gw, gx, gy⟩ := good
  have wP := hA.2.2.1 p hp'
  have wQ := hA.2.2.1 q hq'
  have si := stS_in wP wQ (dx := dx) (dy := dy) (dN (aPic A q)) (Nat.le_refl _)
  have s0 := stS_0 wP wQ (dx := dx) (dy := dy) (dN (aPic A q)) (Nat.le_refl _)
  have n2 := dN25 wQ
  refine ⟨if w = 0 then (stS (aPic A p) (aPic A q) dx dy (dN (aPic A q))).1 else if w = 1 then (stS (aPic A p) (aPic A q) dx dy (dN (aPic A q))).2.1 else (stS (aPic A p) (aPic A q) dx dy (dN (aPic A q))).2.2.2 - (stS (aPic A p) (aPic A q) dx dy (dN (aPic A q))).2.2.1, fun h hS => ?_, fun g hM => ?_⟩
  · obtain ⟨h1, h2, h3, e1, e2, e3, S3, C3, f3⟩ := c_two (n := n) hS hA hp' hq' gx gy
    refine ⟨h3, ?_, S3, f3⟩
    have ca := c_apt (n := n) C3 ⟨by omega, by omega⟩
    rw [b131_0, b131_2 (c_isp1 hS hA hp'), if_neg z1, b131_6 (c_isp1 hS hA hq'), if_neg z1, hw.e, hx.e, hy.e, if_neg (by omega), if_neg (by omega), if_neg (by omega), if_neg (by omega), if_neg (by omega), if_pos (by omega), b131_31 (LX0_p (by omega)) e1, b131_34 (LX0_p (by omega)) (LX0_p (by omega)) e2, b131_37 (LX0_p (by omega)) (LX0_p (by omega)) e3, hw.e]
    rcases (by omega : w = 0 ∨ w = 1 ∨ w = 2) with e | e | e <;> subst e
    · show Zx 131 40 _ _ _ _ = _
      refine (Zx_nm (L' := [zR 1, zN, zN, zN, zN, zN]) rfl rfl).trans ?_
      rw [b131_40, C3.1, if_pos rfl]
    · show Zx 131 44 _ _ _ _ = _
      refine (Zx_nm (L' := [zR 1, zN, zN, zN, zN, zN]) rfl rfl).trans ?_
      rw [b131_44, C3.2.1, if_neg (by decide), if_pos rfl]
    · show Zx 131 48 _ _ _ _ = _
      refine (Zx_nm (L' := [zR 1, zN, zN, zN, zN, zN]) rfl rfl).trans ?_
      rw [b131_48, b131_50 ca, if_neg (show ¬ (2 : Int) = 0 by decide), if_neg (show ¬ (2 : Int) = 1 by decide)]
      by_cases c : (stS (aPic A p) (aPic A q) dx dy (dN (aPic A q))).1 = 0
      · rw [if_pos c, s0 c]
      · rw [if_neg c]
  · obtain ⟨h1, h2, e1, e2, R2, A2, f2⟩ := m_two (n := n) (McT0 (v := 0) (k := 0) hM) hA hp' hq'
    obtain ⟨h3, e3, c54, c55, c56, f3⟩ := m_sby (n := n) wP wQ R2 A2 gx gy
    refine ⟨h3, ?_, fun x k a => (f3 x k (by omega)).trans ((f2 x k a).trans (frM0 x k a))⟩
    rw [b210_0, b210_5 (m_isp1 (McT0 hM) hA hp'), if_neg z1, b210_9 (m_isp1 (McT0 hM) hA hq'), if_neg z1, b210_14 (ix _), if_neg (zif_neg gx), b210_19 (iy _), if_neg (zif_neg gy), b210_24 (iw _), if_pos (zif_neg gw), b210_30 e1, if_neg z1, b210_34 e2, if_neg z1, b210_39, b210_43 e3, hw.e]
    by_cases c0 : w = 0
    · rw [if_neg (fun z => z c0), if_pos c0, b210_57, c54]
    · rw [if_pos c0, if_neg c0]
      by_cases c1 : w = 1
      · rw [if_neg (fun z => z c1), if_pos c1, b210_57, c55]
      · rw [if_pos c1, if_neg c1, b210_57, c56]
/-- the best place: what is kept while looking -/
noncomputable def bsF (D1 D2 : pD) : Nat → Int × Int × Int
  | 0 => (-1, 0, 0)
  | c + 1 => let s := stS D1 D2 (((c % 5 : Nat) : Int) - 2) (((c / 5 : Nat) : Int) - 2) (dN D2)
    if 2 ≤ s.1 ∧ ((bsF D1 D2 c).1 = -1 ∨ s.2.2.2 - s.2.2.1 < (bsF D1 D2 c).2.1 ∨ (s.2.2.2 - s.2.2.1 = (bsF D1 D2 c).2.1 ∧ (bsF D1 D2 c).2.2 < s.1)) then ((c : Int), s.2.2.2 - s.2.2.1, s.1) else bsF D1 D2 c
theorem bsF_in {D1 D2 : pD} (h1 : wfD D1) (h2 : wfD D2) : ∀ c, (-1 ≤ (bsF D1 D2 c).1 ∧ ((bsF D1 D2 c).1 < c ∨ (bsF D1 D2 c).1 = -1)) ∧ (-1600000 ≤ (bsF D1 D2 c).2.1 ∧ (bsF D1 D2 c).2.1 ≤ 1600000) ∧ 0 ≤ (bsF D1 D2 c).2.2 ∧ (bsF D1 D2 c).2.2 ≤ 25
  | 0 => ⟨⟨Int.le_refl _, Or.inr rfl⟩, ⟨by show (-1600000 : Int) ≤ 0; omega, by show (0 : Int) ≤ 1600000; omega⟩, Int.le_refl _, by show (0 : Int) ≤ 25; omega⟩
  | c + 1 => by
    have i := bsF_in h1 h2 c
    have n2 := dN25 h2
    have s := stS_in h1 h2 (dx := ((c % 5 : Nat) : Int) - 2) (dy := ((c / 5 : Nat) : Int) - 2) (dN D2) (Nat.le_refl _)
    unfold bsF
    (try dsimp only)
    split
    · (try dsimp only)
      omega
    · omega
end OPT
