/-! QUESTIONS: picture, out -/
section OPG
variable {n : Nat} {h : zH} {A : aS}
/-- what is there without one pixel -/
def dTk (D : pD) (k : Nat) (i : Nat) : Bool := dT D i && !decide (i = k)
noncomputable def cZk (D : pD) (k : Nat) : Int := czo (dN D) (dW D) (dTk D k) (dF D) (dG D)
theorem wfS_T {W H N : Nat} {T T' : Nat → Bool} {F G : Nat → Int} (hw : wfS W H N T F G) (e : ∀ k, T' k = true → T k = true) : wfS W H N T' F G := by
  obtain ⟨a, b, c, d, f⟩ := hw
  exact ⟨a, b, c, d, fun k hk => ⟨(f k hk).1, fun q => (f k hk).2.1 (e k q), (f k hk).2.2⟩⟩
theorem wfS_k {D : pD} (hw : wfD D) {k : Nat} : wfS (dW D) (dH D) (dN D) (dTk D k) (dF D) (dG D) := wfS_T (wfS_D hw) (fun i q => by
  unfold dTk at q
  rw [Bool.and_eq_true] at q
  exact q.1)
theorem ScC_k {o W H N k : Nat} {T : Nat → Bool} {F G : Nat → Int} (hS : ScC h o W H N T F G) : ScC (zu h (o + 1) k 0) o W H N (fun i => T i && !decide (i = k)) F G := by
  obtain ⟨a, b, c, d⟩ := hS
  refine ⟨by rw [zu_off (by omega)]; exact a, by rw [zu_off (by omega)]; exact b, by rw [zu_off (by omega)]; exact c, fun i hi => ?_⟩
  obtain ⟨d1, d2, d3⟩ := d i hi
  refine ⟨?_, by rw [zu_off (by omega)]; exact d2, by rw [zu_off (by omega)]; exact d3⟩
  show zb1 (zu h (o + 1) k 0 (o + 1) i) = if (T i && !decide (i = k)) = true then 1 else 0
  by_cases q : i = k
  · subst q
    rw [zu_eq, decide_eq_true rfl, show (T i && !true) = false from Bool.and_false _, if_neg (by decide)]; decide
  · rw [zu_off (by omega), d1, decide_eq_false q, show (T i && !false) = T i from Bool.and_true _]
theorem thr_k {st ph : Nat → Int} {ho : Nat → Bool} {le : Int} {k : Nat} : thr st ph (fun i => ho i || decide (i = k)) le = fun i => thr st ph ho le i && !decide (i = k) := by
  funext i
  show (!decide (phs st ph le i = -1) && !(ho i || decide (i = k))) = (!decide (phs st ph le i = -1) && !ho i && !decide (i = k))
  cases decide (phs st ph le i = -1) <;> cases ho i <;> cases decide (i = k) <;> rfl
/-- FringeBench.costWithout -/
theorem c_cwo (hS : ClS h A) (hA : wfA A) {p k : Nat} (hp : p < aNp A) (hk : k < dN (aPic A p)) : ∃ h1, Zx 113 0 [zR 1, zI (p : Int), zI (k : Int), zN] [] (Z0 n) h = some (some (zI (cZk (aPic A p) k)), Z0 n, h1) ∧ ∀ x i, (x < 173 ∨ 201 < x) → h1 x i = h x i := by
  have wD := hA.2.2.1 p hp
  have hN := dN25 wD
  obtain ⟨h1, e1, s1, f1⟩ := c_sup (n := n) hS hA hp
  obtain ⟨h2, e2, -, -, f2⟩ := c_cost (n := n) (ScC_k (k := k) s1) (wfS_k wD)
  refine ⟨h2, ?_, fun x i q => ?_⟩
  · rw [b113_0, b113_2 (LX0_173 n) e1 (by omega) (by omega), Int.toNat_natCast, b113_11 (LX0_173 n) e2]
    rfl
  · rw [f2 x i (by omega), zu_off (by omega)]; exact f1 x i (by omega)
noncomputable def mdS (D : pD) : Nat → Int × Int
  | 0 => (-1, dZ D)
  | i + 1 => if dT D i = true ∧ cZk D i < (mdS D i).2 then ((i : Int), cZk D i) else mdS D i
theorem cZk_in {D : pD} (hw : wfD D) {k : Nat} : 0 ≤ cZk D k ∧ cZk D k ≤ 30000 := dZ_in (wfS_k hw)
theorem mdS_in {D : pD} (hw : wfD D) : ∀ i, 0 ≤ (mdS D i).2 ∧ (mdS D i).2 ≤ 30000
  | 0 => dZ_in (wfS_D hw)
  | i + 1 => by
    have a := mdS_in hw i
    have b := cZk_in hw (k := i)
    unfold mdS
    split
    · exact b
    · exact a
/-- FringeBench.mendOf -/
theorem c_mnd (hS : ClS h A) (hA : wfA A) {p : Nat} (hp : p < aNp A) (hV : SvK h (115 + 19 * p) (dW (aPic A p)) (dH (aPic A p)) (dN (aPic A p)) (dT (aPic A p)) (dF (aPic A p)) (dG (aPic A p))) : ∃ h1, Zx 112 0 [zR 1, zI (p : Int), zR (115 + 19 * p), zN, zN, zN, zN] [] (Z0 n) h = some (some (zI (mdS (aPic A p) (dN (aPic A p))).1), Z0 n, h1) ∧ ∀ x i, (x < 173 ∨ 201 < x) → h1 x i = h x i := by
  have np := hA.2.1
  have p3 : p < 3 := by omega
  have wD := hA.2.2.1 p hp
  have hN := dN25 wD
  obtain ⟨h1, e1, f1⟩ := z_inv (N := dN (aPic A p)) (X := fun k (u : zH) => Zx 112 7 [zR 1, zI (p : Int), zR (115 + 19 * p), zI (mdS (aPic A p) k).1, zI (mdS (aPic A p) k).2, zI (k : Int), zN] [] (Z0 n) u) (I := fun k u => ∀ x i, (x < 173 ∨ 201 < x) → u x i = h x i) (s := h) (fun x i _ => rfl) (fun k u hk fu => by
    have Su : ClS u A := hS.cg hA (fun x i q => fu x i (by omega))
    have Vu : SvK u (115 + 19 * p) (dW (aPic A p)) (dH (aPic A p)) (dN (aPic A p)) (dT (aPic A p)) (dF (aPic A p)) (dG (aPic A p)) := hV.cg2 (fun x i a b => fu x i (by omega))
    have e2 : u (115 + 19 * p + 1) 2 = (dN (aPic A p) : Int) := Vu.sc.2.2.1
    have th := Vu.sc.th hk
    have m := mdS_in wD k
    have c := cZk_in wD (k := k)
    have st := b112_7 (n := n) (h := u) (l1 := (p : Int)) (l2 := 115 + 19 * p) (l3 := (mdS (aPic A p) k).1) (l4 := (mdS (aPic A p) k).2) (l5 := (k : Int)) (LX0_p p3) (by intros; omega) (by intros; omega)
    rw [e2, zw_nat (by omega), zw_nat (by omega), if_neg (by omega), Int.toNat_natCast] at st
    by_cases c1 : zw (zb1 (u (115 + 19 * p + 2) k)) = 0
    · rw [if_pos c1, b112_30 (LX0_p p3)] at st
      refine ⟨u, ?_, fu⟩
      have : mdS (aPic A p) (k + 1) = mdS (aPic A p) k := by
        show (if dT (aPic A p) k = true ∧ _ then _ else mdS (aPic A p) k) = _
        rw [if_neg (fun q => by rw [th.mp c1] at q; exact Bool.noConfusion q.1)]
      rw [this]
      exact st
    · have tk : dT (aPic A p) k = true := by
        cases q : dT (aPic A p) k
        · exact absurd (th.mpr q) c1
        · rfl
      obtain ⟨h3, e3, f3⟩ := c_cwo (n := n) Su hA hp hk
      rw [if_neg c1, b112_21 (LX0_p p3) e3, zw_id (z := (mdS (aPic A p) k).2) (by omega) (by omega), zw_id (z := cZk (aPic A p) k) (by omega) (by omega)] at st
      refine ⟨h3, ?_, fun x i q => by rw [f3 x i q]; exact fu x i q⟩
      by_cases d : (mdS (aPic A p) k).2 ≤ cZk (aPic A p) k
      · rw [if_pos d, b112_30 (LX0_p p3)] at st
        have : mdS (aPic A p) (k + 1) = mdS (aPic A p) k := by
          show (if dT (aPic A p) k = true ∧ _ then _ else mdS (aPic A p) k) = _
          rw [if_neg (fun q => by omega)]
        rw [this]
        exact st
      · rw [if_neg d, b112_30 (LX0_p p3)] at st
        have : mdS (aPic A p) (k + 1) = ((k : Int), cZk (aPic A p) k) := by
          show (if dT (aPic A p) k = true ∧ cZk (aPic A p) k < (mdS (aPic A p) k).2 then _ else _) = _
          rw [if_pos ⟨tk, by omega⟩]
        rw [this]
        exact st)
  refine ⟨h1, ?_, f1⟩
  have e2 : h1 (115 + 19 * p + 1) 2 = (dN (aPic A p) : Int) := by rw [f1 _ _ (by omega)]; exact hV.sc.2.2.1
  rw [b112_0 (LX0_p p3), hV.cost]
  refine e1.trans ?_
  show Zx 112 7 _ _ _ _ = _
  rw [b112_7 (LX0_p p3) (by rw [e2]; intro q; exact absurd (Int.le_refl _) q) (by rw [e2]; intro q; exact absurd (Int.le_refl _) q), e2, if_pos (Int.le_refl _)]
/-- FringeBenchModel.costOut -/
theorem m_cou {D : pD} (hH : HdD h D) (hw : wfD D) {k : Nat} (hk : k < dN D) : ∃ g, Zx 191 0 [zR 202, zI (k : Int), zN] [] (Z0 n) h = some (some (zI (cZk D k)), Z0 n, g) ∧ RtK g (dW D) (dH D) (dN D) (dTk D k) (dF D) (dG D) ∧ frM g h ∧ ∀ i, g 231 i = h 231 i := by
  have hN := dN25 hw
  have H2 : HdC (zu h 214 k 1) (dW D) (dH D) (dL D) (dS D) (dG D) (dP D) (fun i => dO D i || decide (i = k)) := by
    obtain ⟨a, b, c, d, e, f⟩ := hH
    refine ⟨by rw [zu_off (by omega)]; exact a, by rw [zu_off (by omega)]; exact b, by rw [zu_off (by omega)]; exact c, by rw [zu_off (by omega)]; exact d, fun i hi => by rw [zu_off (by omega)]; exact e i hi, fun i hi => ?_⟩
    obtain ⟨f1, f2, f3⟩ := f i hi
    refine ⟨by rw [zu_off (by omega)]; exact f1, by rw [zu_off (by omega)]; exact f2, ?_⟩
    show zb1 (zu h 214 k 1 214 i) = if (dO D i || decide (i = k)) = true then 1 else 0
    by_cases q : i = k
    · subst q
      rw [zu_eq, decide_eq_true rfl, Bool.or_true, if_pos rfl]; decide
    · rw [zu_off (by omega), decide_eq_false q, Bool.or_false]; exact f3
  obtain ⟨g1, e1, H1, R1, n1, -, f1⟩ := m_fph (n := n) H2 hw
  rw [thr_k] at R1
  obtain ⟨g2, z, tl, tg, e2, V2, f2⟩ := m_ftu (n := n) R1 (wfS_k hw (k := k))
  have V2' := V2.cn (wfS_k hw (k := k))
  have V3 : RtK (zu g2 214 k (zb1 (h 214 k))) (dW D) (dH D) (dN D) (dTk D k) (dF D) (dG D) := by
    obtain ⟨a, b, c, d, e, f, l, g, u, v⟩ := V2'
    refine ⟨a.cg (fun x i q => by rw [zu_off (by omega)]), b.cg (fun x i q => by rw [zu_off (by omega)]), c.cg (fun x i q => by rw [zu_off (by omega)]), fun i hi ti => by rw [zu_off (by omega)]; exact d i hi ti, by rw [zu_off (by omega)]; exact e, f, l, g, u.cg (fun i => by rw [zu_off (by omega)]), fun i hi ti => by rw [zu_off (by omega)]; exact v i hi ti⟩
  refine ⟨_, ?_, V3, fun x i q => ?_, fun i => ?_⟩
  · rw [b191_0 (by omega) (by omega) (by omega) (by omega), Int.toNat_natCast, b191_11 e1, b191_13 e2 (by omega) (by omega), Int.toNat_natCast, V3.2.2.2.2.1]
    rfl
  · rw [zu_off (by omega), f2 x i (by omega) (by omega), f1 x i (by omega) (by omega) (by omega), zu_off (by omega)]
  · rw [zu_off (by omega), f2 _ _ (by omega) (by omega), f1 _ _ (by omega) (by omega) (by omega), zu_off (by omega)]
/-- FringeBenchModel.mend -/
theorem m_mnd {g0 : zH} (hM : McT g0 0 A) (hA : wfA A) {p : Nat} (hp : p < aNp A) (h23 : g0 202 23 = (dN (aPic A p) : Int)) (h40 : g0 202 40 = dZ (aPic A p)) : ∃ g1, Zx 192 0 [zR 202, zI (p : Int), zN, zN, zN, zN, zN] [] (Z0 n) g0 = some (some (zI (mdS (aPic A p) (dN (aPic A p))).1), Z0 n, g1) ∧ frM g1 g0 := by
  have wD := hA.2.2.1 p hp
  have hD := wfS_D wD
  have hN := dN25 wD
  obtain ⟨g1, e1, f1, c1⟩ := z_inv (N := dN (aPic A p)) (X := fun k (u : zH) => Zx 192 7 [zR 202, zI (p : Int), zI (mdS (aPic A p) k).1, zI (mdS (aPic A p) k).2, zI (k : Int), zN, zN] [] (Z0 n) u) (I := fun k u => frM u g0 ∧ u 202 23 = (dN (aPic A p) : Int)) (s := g0) ⟨frM.rf, h23⟩ (fun k u hk Iu => by
    obtain ⟨fu, u23⟩ := Iu
    have Mu : McT u 0 A := hM.cg (fun x i q1 q2 => fu x i (by omega))
    obtain ⟨g2, e2, H2, R2, n2, f2⟩ := m_han (n := n) Mu hA hp
    have th := R2.th hk
    have m := mdS_in wD k
    have c := cZk_in wD (k := k)
    have st : Zx 192 7 [zR 202, zI (p : Int), zI (mdS (aPic A p) k).1, zI (mdS (aPic A p) k).2, zI (k : Int), zN, zN] [] (Z0 n) u = if zw (zb1 (g2 216 k)) = 0 then Zx 192 31 [zR 202, zI (p : Int), zI (mdS (aPic A p) k).1, zI (mdS (aPic A p) k).2, zI (k : Int), zN, zN] [zI (mdS (aPic A p) k).2] (Z0 n) g2 else Zx 192 28 [zR 202, zI (p : Int), zI (mdS (aPic A p) k).1, zI (mdS (aPic A p) k).2, zI (k : Int), zN, zN] [zI (k : Int), zR 202] (Z0 n) g2 := by
      rw [b192_7, u23, zw_nat (by omega), zw_nat (by omega), if_neg (by omega), b192_13 e2 (by intros; omega) (by intros; omega), if_neg (show ¬ zw 1 = 0 by decide), Int.toNat_natCast, b192_22, b192_23, b192_23, if_pos zw0, if_neg (show ¬ zw 1 = 0 by decide)]
    have fin : ∀ (v : Int) (g : zH), zint v → Zx 192 31 [zR 202, zI (p : Int), zI (mdS (aPic A p) k).1, zI (mdS (aPic A p) k).2, zI (k : Int), zN, zN] [zI v] (Z0 n) g = Zx 192 7 [zR 202, zI (p : Int), zI (if v < (mdS (aPic A p) k).2 then (k : Int) else (mdS (aPic A p) k).1), zI (if v < (mdS (aPic A p) k).2 then v else (mdS (aPic A p) k).2), zI ((k + 1 : Nat) : Int), zN, zN] [] (Z0 n) g := fun v g hv => by
      rw [b192_31, zw_id (z := (mdS (aPic A p) k).2) (by omega) (by omega), hv.e]
      by_cases d : (mdS (aPic A p) k).2 ≤ v
      · rw [if_pos d, b192_38, b192_41 s_lesser, zw_id (z := (mdS (aPic A p) k).2) (by omega) (by omega), hv.e, if_neg (show ¬ v < (mdS (aPic A p) k).2 by omega), if_neg (show ¬ v < (mdS (aPic A p) k).2 by omega), if_pos d]
        rfl
      · rw [if_neg d, b192_38, b192_41 s_lesser, zw_id (z := (mdS (aPic A p) k).2) (by omega) (by omega), hv.e, if_pos (show v < (mdS (aPic A p) k).2 by omega), if_pos (show v < (mdS (aPic A p) k).2 by omega), if_neg d]
        rfl
    by_cases c1 : zw (zb1 (g2 216 k)) = 0
    · rw [if_pos c1, fin _ _ ⟨by omega, by omega⟩, if_neg (by omega), if_neg (by omega)] at st
      refine ⟨g2, ?_, f2.tr fu, R2.2.2.1⟩
      have : mdS (aPic A p) (k + 1) = mdS (aPic A p) k := by
        show (if dT (aPic A p) k = true ∧ _ then _ else mdS (aPic A p) k) = _
        rw [if_neg (fun q => by rw [th.mp c1] at q; exact Bool.noConfusion q.1)]
      rw [this]
      exact st
    · have tk : dT (aPic A p) k = true := by
        cases q : dT (aPic A p) k
        · exact absurd (th.mpr q) c1
        · rfl
      obtain ⟨g3, e3, V3, f3, -⟩ := m_cou (n := n) H2 wD hk
      rw [if_neg c1, b192_28 e3, fin _ _ ⟨by omega, by omega⟩] at st
      refine ⟨g3, ?_, f3.tr (f2.tr fu), V3.1.2.2.1⟩
      have : mdS (aPic A p) (k + 1) = ((if cZk (aPic A p) k < (mdS (aPic A p) k).2 then (k : Int) else (mdS (aPic A p) k).1), (if cZk (aPic A p) k < (mdS (aPic A p) k).2 then cZk (aPic A p) k else (mdS (aPic A p) k).2)) := by
        show (if dT (aPic A p) k = true ∧ cZk (aPic A p) k < (mdS (aPic A p) k).2 then _ else mdS (aPic A p) k) = _
        by_cases d : cZk (aPic A p) k < (mdS (aPic A p) k).2
        · rw [if_pos ⟨tk, d⟩, if_pos d, if_pos d]
        · rw [if_neg (fun q => d q.2), if_neg d, if_neg d]
      rw [this]
      exact st)
  refine ⟨g1, ?_, f1⟩
  rw [b192_0, h40]
  refine e1.trans ?_
  show Zx 192 7 _ _ _ _ = _
  rw [b192_7, c1, if_pos (Int.le_refl _)]
end OPG
