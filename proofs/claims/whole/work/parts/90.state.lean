/-! THE STATE: pictures, tests, tape; how the class and the reference hold it -/
abbrev pD : Type := Nat × Nat × Int × (Nat → Int) × (Nat → Int) × (Nat → Int) × (Nat → Bool)
abbrev dW (D : pD) : Nat := D.1
abbrev dH (D : pD) : Nat := D.2.1
abbrev dL (D : pD) : Int := D.2.2.1
abbrev dS (D : pD) : Nat → Int := D.2.2.2.1
abbrev dG (D : pD) : Nat → Int := D.2.2.2.2.1
abbrev dP (D : pD) : Nat → Int := D.2.2.2.2.2.1
abbrev dO (D : pD) : Nat → Bool := D.2.2.2.2.2.2
abbrev dN (D : pD) : Nat := dW D * dH D
abbrev dT (D : pD) : Nat → Bool := thr (dS D) (dP D) (dO D) (dL D)
abbrev dF (D : pD) : Nat → Int := phs (dS D) (dP D) (dL D)
abbrev wfD (D : pD) : Prop := wfP (dW D) (dH D) (dL D) (dS D) (dG D) (dP D)
abbrev tD : Type := Nat × (Nat → Int) × (Nat → Int)
def wfT (t : tD) : Prop := t.1 ≤ 8 ∧ ∀ k, k < t.1 → (0 ≤ t.2.1 k ∧ t.2.1 k ≤ 5) ∧ 0 ≤ t.2.2 k ∧ t.2.2 k ≤ 9999
abbrev aS : Type := Nat × (Nat → Int) × Nat × (Nat → pD) × Nat × (Nat → tD) × Int × Int
abbrev aLen (A : aS) : Nat := A.1
abbrev aByt (A : aS) : Nat → Int := A.2.1
abbrev aNp (A : aS) : Nat := A.2.2.1
abbrev aPic (A : aS) : Nat → pD := A.2.2.2.1
abbrev aNt (A : aS) : Nat := A.2.2.2.2.1
abbrev aTri (A : aS) : Nat → tD := A.2.2.2.2.2.1
abbrev aFlt (A : aS) : Int := A.2.2.2.2.2.2.1
abbrev aPlc (A : aS) : Int := A.2.2.2.2.2.2.2
def wfA (A : aS) : Prop := aLen A ≤ 600 ∧ aNp A ≤ 3 ∧ (∀ p, p < aNp A → wfD (aPic A p)) ∧ aNt A ≤ 2 ∧ (∀ t, t < aNt A → wfT (aTri A t)) ∧ zint (aFlt A) ∧ zint (aPlc A)
def TrC (h : zH) (o : Nat) (t : tD) : Prop := h o 0 = (t.1 : Int) ∧ ∀ k, k < t.1 → h (o + 1) k = t.2.1 k ∧ h (o + 2) k = t.2.2 k
abbrev PiD (h : zH) (o : Nat) (D : pD) : Prop := PiC h o (dW D) (dH D) (dL D) (dS D) (dG D) (dP D) (dO D)
def ClT (h : zH) (q : Nat) (A : aS) : Prop := h q 1 = (aLen A : Int) ∧ (∀ k, k < aLen A → zb8 (h (q + 1) k) = aByt A k) ∧ h q 3 = (aNp A : Int) ∧ (∀ p, p < aNp A → PiD h (q + 3 + 5 * p) (aPic A p)) ∧ h q 5 = (aNt A : Int) ∧ (∀ t, t < aNt A → TrC h (q + 19 + 3 * t) (aTri A t)) ∧ h q 6 = aFlt A ∧ h q 7 = aPlc A
def McP (h : zH) (b : Nat) (D : pD) : Prop := h 208 b = (dW D : Int) ∧ h 208 (b + 1) = (dH D : Int) ∧ h 208 (b + 2) = dL D ∧ (∀ k, k < 100 → h 208 (b + 3 + k) = dS D k) ∧ ∀ k, k < 25 → h 208 (b + 103 + k) = dG D k ∧ h 208 (b + 128 + k) = dP D k ∧ h 208 (b + 153 + k) = if dO D k = true then 1 else 0
def McR (h : zH) (b : Nat) (t : tD) : Prop := h 209 b = (t.1 : Int) ∧ ∀ k, k < t.1 → h 209 (b + 1 + 2 * k) = t.2.1 k ∧ h 209 (b + 2 + 2 * k) = t.2.2 k
def McT (h : zH) (s : Nat) (A : aS) : Prop := h 204 s = (aLen A : Int) ∧ (∀ k, k < aLen A → zb8 (h 203 (600 * s + k)) = aByt A k) ∧ h 207 (2 * s) = (aNp A : Int) ∧ (∀ p, p < aNp A → McP h (534 * s + 178 * p) (aPic A p)) ∧ h 207 (2 * s + 1) = (aNt A : Int) ∧ (∀ t, t < aNt A → McR h (34 * s + 17 * t) (aTri A t)) ∧ h 205 s = aFlt A ∧ h 206 s = aPlc A
def CaC (h : zH) (A : aS) : Prop := ∀ p, p < 3 → zb1 (h 172 p) = 0 ∨ (zb1 (h 172 p) = 1 ∧ p < aNp A ∧ SvK h (115 + 19 * p) (dW (aPic A p)) (dH (aPic A p)) (dN (aPic A p)) (dT (aPic A p)) (dF (aPic A p)) (dG (aPic A p)))
def ClS (h : zH) (A : aS) : Prop := ClT h 2 A ∧ CaC h A
/-- what a question may change: of the class, of the reference -/
def frC (h' h : zH) : Prop := ∀ x k, (x < 115 ∨ 201 < x) → h' x k = h x k
def frM (h' h : zH) : Prop := ∀ x k, (x < 202 ∨ (203 ≤ x ∧ x ≤ 210) ∨ x = 237) → h' x k = h x k
/-- a question with an int for an answer: both sides answer alike -/
def OpI (n m m' : Nat) (L L' : List zV) (A : aS) : Prop := ∃ v : Int, (∀ h, ClS h A → ∃ h', Zx m 0 L [] (Z0 n) h = some (some (zI v), Z0 n, h') ∧ ClS h' A ∧ frC h' h) ∧ ∀ g, McT g 0 A → ∃ g', Zx m' 0 L' [] (Z0 n) g = some (some (zI v), Z0 n, g') ∧ frM g' g
section STT
variable {n : Nat} {h : zH} {A : aS}
theorem frC.rf : frC h h := fun _ _ _ => rfl
theorem frM.rf : frM h h := fun _ _ _ => rfl
theorem frC.tr {a b c : zH} (p : frC a b) (q : frC b c) : frC a c := fun x k e => (p x k e).trans (q x k e)
theorem frM.tr {a b c : zH} (p : frM a b) (q : frM b c) : frM a c := fun x k e => (p x k e).trans (q x k e)
theorem PiC.cg2 {h' : zH} {p W H : Nat} {le : Int} {st wt ph : Nat → Int} {ho : Nat → Bool} (hP : PiC h p W H le st wt ph ho) (e : ∀ x k, p ≤ x → x ≤ p + 4 → h' x k = h x k) : PiC h' p W H le st wt ph ho := by
  obtain ⟨a, b, c, d, f⟩ := hP
  refine ⟨by rw [e _ _ (by omega) (by omega)]; exact a, by rw [e _ _ (by omega) (by omega)]; exact b, by rw [e _ _ (by omega) (by omega)]; exact c, fun k hk => by rw [e _ _ (by omega) (by omega)]; exact d k hk, fun k hk => ?_⟩
  rw [e _ _ (by omega) (by omega), e _ _ (by omega) (by omega), e _ _ (by omega) (by omega)]
  exact f k hk
theorem ClT.cg {q : Nat} {h' : zH} (hT : ClT h q A) (hA : wfA A) (e : ∀ x k, q ≤ x → x ≤ q + 24 → h' x k = h x k) : ClT h' q A := by
  obtain ⟨a, b, c, d, f, g, i, j⟩ := hT
  have np := hA.2.1
  have nt := hA.2.2.2.1
  refine ⟨by rw [e _ _ (by omega) (by omega)]; exact a, fun k hk => by rw [e _ _ (by omega) (by omega)]; exact b k hk, by rw [e _ _ (by omega) (by omega)]; exact c, fun p hp => (d p hp).cg2 (fun x k q1 q2 => e x k (by omega) (by omega)), by rw [e _ _ (by omega) (by omega)]; exact f, fun t ht => ?_, by rw [e _ _ (by omega) (by omega)]; exact i, by rw [e _ _ (by omega) (by omega)]; exact j⟩
  obtain ⟨u, v⟩ := g t ht
  refine ⟨by rw [e _ _ (by omega) (by omega)]; exact u, fun k hk => ?_⟩
  rw [e _ _ (by omega) (by omega), e _ _ (by omega) (by omega)]
  exact v k hk
theorem McT.cg {s : Nat} {h' : zH} (hT : McT h s A) (e : ∀ x k, 203 ≤ x → x ≤ 209 → h' x k = h x k) : McT h' s A := by
  obtain ⟨a, b, c, d, f, g, i, j⟩ := hT
  refine ⟨by rw [e _ _ (by omega) (by omega)]; exact a, fun k hk => by rw [e _ _ (by omega) (by omega)]; exact b k hk, by rw [e _ _ (by omega) (by omega)]; exact c, fun p hp => ?_, by rw [e _ _ (by omega) (by omega)]; exact f, fun t ht => ?_, by rw [e _ _ (by omega) (by omega)]; exact i, by rw [e _ _ (by omega) (by omega)]; exact j⟩
  · obtain ⟨d1, d2, d3, d4, d5⟩ := d p hp
    refine ⟨by rw [e _ _ (by omega) (by omega)]; exact d1, by rw [e _ _ (by omega) (by omega)]; exact d2, by rw [e _ _ (by omega) (by omega)]; exact d3, fun k hk => by rw [e _ _ (by omega) (by omega)]; exact d4 k hk, fun k hk => ?_⟩
    rw [e _ _ (by omega) (by omega), e _ _ (by omega) (by omega), e _ _ (by omega) (by omega)]
    exact d5 k hk
  · obtain ⟨u, v⟩ := g t ht
    refine ⟨by rw [e _ _ (by omega) (by omega)]; exact u, fun k hk => ?_⟩
    rw [e _ _ (by omega) (by omega), e _ _ (by omega) (by omega)]
    exact v k hk
theorem CaC.cg {h' : zH} (hC : CaC h A) (e : ∀ x k, 115 ≤ x → x ≤ 172 → h' x k = h x k) : CaC h' A := fun p hp => by
  rw [e 172 p (by omega) (by omega)]
  rcases hC p hp with q | ⟨q1, q2, q3⟩
  · exact Or.inl q
  · exact Or.inr ⟨q1, q2, q3.cg2 (fun x k a b => e x k (by omega) (by omega))⟩
theorem ClS.cg {h' : zH} (hS : ClS h A) (hA : wfA A) (e : ∀ x k, x < 173 → h' x k = h x k) : ClS h' A := ⟨hS.1.cg hA (fun x k _ _ => e x k (by omega)), hS.2.cg (fun x k _ _ => e x k (by omega))⟩
theorem wfS_D {D : pD} (hw : wfD D) : wfS (dW D) (dH D) (dN D) (dT D) (dF D) (dG D) := wfS_of hw
/-- FringeBench.isPicture -/
theorem c_isp (hS : ClS h A) (hA : wfA A) {p : Int} (hp : zint p) : Zx 104 0 [zR 1, zI p] [] (Z0 n) h = some (some (zI (if 0 ≤ p ∧ p < aNp A then 1 else 0)), Z0 n, h) := by
  have np := hA.2.1
  have e3 := hS.1.2.2.1
  rw [b104_0, e3, hp.e, zw_nat (by omega)]
  by_cases c1 : p < 0
  · rw [if_pos c1, b104_12, b104_13 (Or.inl rfl), if_neg (by omega)]
  · rw [if_neg c1]
    by_cases c2 : (aNp A : Int) ≤ p
    · rw [if_pos c2, b104_12, b104_13 (Or.inl rfl), if_neg (by omega)]
    · rw [if_neg c2, if_neg (by omega), b104_13 (Or.inr rfl), if_pos (by omega)]
/-- FringeBench.isTest -/
theorem c_ist (hS : ClS h A) (hA : wfA A) {p : Int} (hp : zint p) : Zx 108 0 [zR 1, zI p] [] (Z0 n) h = some (some (zI (if 0 ≤ p ∧ p < aNt A then 1 else 0)), Z0 n, h) := by
  have nt := hA.2.2.2.1
  have e3 := hS.1.2.2.2.2.1
  rw [b108_0, e3, hp.e, zw_nat (by omega)]
  by_cases c1 : p < 0
  · rw [if_pos c1, b108_12, b108_13 (Or.inl rfl), if_neg (by omega)]
  · rw [if_neg c1]
    by_cases c2 : (aNt A : Int) ≤ p
    · rw [if_pos c2, b108_12, b108_13 (Or.inl rfl), if_neg (by omega)]
    · rw [if_neg c2, if_neg (by omega), b108_13 (Or.inr rfl), if_pos (by omega)]
theorem pic3 {p : Nat} (hp : p < 3) : [some 5, some 10, some 15].getD ((p : Int)).toNat none = some (5 + 5 * p) := by
  rcases (by omega : p = 0 ∨ p = 1 ∨ p = 2) with e | e | e <;> subst e <;> rfl
theorem hts3 {p : Nat} (hp : p < 3) : [some 115, some 134, some 153].getD ((p : Int)).toNat none = some (115 + 19 * p) := by
  rcases (by omega : p = 0 ∨ p = 1 ∨ p = 2) with e | e | e <;> subst e <;> rfl
theorem LX2_p {p : Nat} (hp : p < 3) : LX2 (Z0 n) (5 + 5 * p) := by
  rcases (by omega : p = 0 ∨ p = 1 ∨ p = 2) with e | e | e <;> subst e
  · exact LX2_5 n
  · exact LX2_10 n
  · exact LX2_15 n
theorem LX0_p {p : Nat} (hp : p < 3) : LX0 (Z0 n) (115 + 19 * p) := by
  rcases (by omega : p = 0 ∨ p = 1 ∨ p = 2) with e | e | e <;> subst e
  · exact LX0_115 n
  · exact LX0_134 n
  · exact LX0_153 n
/-- FringeBench.heightsOf -/
theorem c_hts (hS : ClS h A) (hA : wfA A) {p : Nat} (hp : p < aNp A) : ∃ h', Zx 109 0 [zR 1, zI (p : Int), zN, zN] [] (Z0 n) h = some (some (zR (115 + 19 * p)), Z0 n, h') ∧ ClS h' A ∧ SvK h' (115 + 19 * p) (dW (aPic A p)) (dH (aPic A p)) (dN (aPic A p)) (dT (aPic A p)) (dF (aPic A p)) (dG (aPic A p)) ∧ ∀ x k, (x < 115 ∨ 172 < x) → h' x k = h x k := by
  have np := hA.2.1
  have p3 : p < 3 := by omega
  have hD := hA.2.2.1 p hp
  have hP := hS.1.2.2.2.1 p hp
  have st := b109_0 (n := n) (h := h) (l1 := (p : Int)) (q0 := 115 + 19 * p) (q1 := 5 + 5 * p) (by omega) (by omega) (hts3 p3) (LX0_p p3) (by omega) (by omega) (by intros; omega) (by intros; omega) (fun _ => pic3 p3) (LX2_p p3)
  rw [Int.toNat_natCast] at st
  rcases hS.2 p p3 with c | ⟨c1, c2, c3⟩
  · rw [c, if_neg (fun q => q zw0)] at st
    rw [show 2 + 3 + 5 * p = 5 + 5 * p by omega] at hP
    have hl : zint (dL (aPic A p)) := by have := hD.2.2.1; exact ⟨by omega, by omega⟩
    obtain ⟨h1, e1, s1, f1⟩ := s_tak (S := Z0 n) (LX0.scene (LX0_p p3)) (LX2_p p3) (by omega) hP hD hl
    obtain ⟨z, tl, tg, h2, e2, v2, f2⟩ := s_slv (S := Z0 n) (LX0_p p3) s1 (wfS_D hD)
    have st2 : Zx 109 0 [zR 1, zI (p : Int), zN, zN] [] (Z0 n) h = some (some (zR (115 + 19 * p)), Z0 n, zu h2 172 p 1) := by
      rw [st, hP.2.2.1, b109_21 (LX0_p p3) (LX0.scene (LX0_p p3)) (LX2_p p3) e1, b109_23 (LX0_p p3) (LX0_p p3) e2 (by omega) (by omega), Int.toNat_natCast, b109_29 (LX0_p p3)]
    have fr : ∀ x k, (x < 115 + 19 * p ∨ 133 + 19 * p < x) → ¬ (x = 172 ∧ k = p) → (zu h2 172 p 1) x k = h x k := fun x k q1 q2 => by
      rw [zu_off (by omega), f2 x k (by omega), f1 x k (by omega)]
    have sv : SvK (zu h2 172 p 1) (115 + 19 * p) (dW (aPic A p)) (dH (aPic A p)) (dN (aPic A p)) (dT (aPic A p)) (dF (aPic A p)) (dG (aPic A p)) := (v2.cn (wfS_D hD)).cg2 (fun x k q1 q2 => by rw [zu_off (by omega)])
    refine ⟨_, st2, ⟨hS.1.cg hA (fun x k q1 q2 => fr x k (by omega) (by omega)), fun p' hp' => ?_⟩, sv, fun x k q => fr x k (by omega) (by omega)⟩
    by_cases e : p' = p
    · subst e
      exact Or.inr ⟨by rw [zu_eq]; decide, hp, sv⟩
    · rw [fr 172 p' (by omega) (by omega)]
      rcases hS.2 p' hp' with q | ⟨q1, q2, q3⟩
      · exact Or.inl q
      · refine Or.inr ⟨q1, q2, q3.cg2 (fun x k a b => fr x k ?_ (by omega))⟩
        by_cases d : p' < p
        · left; omega
        · right; omega
  · rw [c1, if_pos (show ¬ zw 1 = 0 by decide), b109_29 (LX0_p p3)] at st
    exact ⟨h, st, hS, c3, fun x k _ => rfl⟩
/-- FringeBench.supposedOf -/
theorem c_sup (hS : ClS h A) (hA : wfA A) {p : Nat} (hp : p < aNp A) : ∃ h', Zx 110 0 [zR 1, zI (p : Int), zN] [] (Z0 n) h = some (some (zR 173), Z0 n, h') ∧ ScC h' 174 (dW (aPic A p)) (dH (aPic A p)) (dN (aPic A p)) (dT (aPic A p)) (dF (aPic A p)) (dG (aPic A p)) ∧ ∀ x k, (x < 174 ∨ 177 < x) → h' x k = h x k := by
  have np := hA.2.1
  have p3 : p < 3 := by omega
  have hD := hA.2.2.1 p hp
  have hP := hS.1.2.2.2.1 p hp
  rw [show 2 + 3 + 5 * p = 5 + 5 * p by omega] at hP
  have hl : zint (dL (aPic A p)) := by have := hD.2.2.1; exact ⟨by omega, by omega⟩
  obtain ⟨h1, e1, s1, f1⟩ := s_tak (S := Z0 n) (LX0.scene (LX0_173 n)) (LX2_p p3) (by omega) hP hD hl
  refine ⟨h1, ?_, s1, f1⟩
  rw [b110_0 (q0 := 5 + 5 * p) (by omega) (by omega) (pic3 p3) (LX2_p p3), hP.2.2.1, b110_12 (LX0.scene (LX0_173 n)) (LX2_p p3) e1]
end STT
