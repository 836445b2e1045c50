/-! QUESTIONS: plane -/
section PLN
variable {n : Nat} {h : zH} {A : aS}
/-- like OpI, for a long -/
def OpL (n m m' : Nat) (L L' : List zV) (A : aS) : Prop := ∃ v : Int, (∀ h, ClS h A → ∃ h', Zx m 0 L [] (Z0 n) h = some (some (zL v), Z0 n, h') ∧ ClS h' A ∧ frC h' h) ∧ ∀ g, McT g 0 A → ∃ g', Zx m' 0 L' [] (Z0 n) g = some (some (zL v), Z0 n, g') ∧ frM g' g
def plF (x y t : Int) : Nat → Int
  | 0 => 1
  | 1 => x
  | 2 => y
  | 3 => x * x
  | 4 => x * y
  | 5 => y * y
  | 6 => t
  | 7 => x * t
  | 8 => y * t
  | _ => t * t
noncomputable def plS (D : pD) (w : Int) (i k : Nat) : Int := su (fun j => if dT D j = true ∧ pP (dN D) (dW D) (dT D) j = w then plF ((j % dW D : Nat) : Int) ((j / dW D : Nat) : Int) (hgt (dF D) (dTl D) j) i else 0) k
def pst (o : Nat) (d : Nat → Int) (h : zH) (i : Nat) : zH := zu h o i (h o i + d i)
def psT (o : Nat) (d : Nat → Int) (h : zH) : zH := pst o d (pst o d (pst o d (pst o d (pst o d (pst o d (pst o d (pst o d (pst o d (pst o d h 0) 1) 2) 3) 4) 5) 6) 7) 8) 9
theorem pst_e {o : Nat} {d : Nat → Int} {h : zH} {i : Nat} : pst o d h i o i = h o i + d i := zu_eq
theorem pst_o {o : Nat} {d : Nat → Int} {h : zH} {i x k : Nat} (q : x ≠ o ∨ k ≠ i) : pst o d h i x k = h x k := zu_off (by omega)
theorem psT_e {o : Nat} {d : Nat → Int} {h : zH} {i : Nat} (hi : i < 10) : psT o d h o i = h o i + d i := by
  unfold psT
  rcases (by omega : i = 0 ∨ i = 1 ∨ i = 2 ∨ i = 3 ∨ i = 4 ∨ i = 5 ∨ i = 6 ∨ i = 7 ∨ i = 8 ∨ i = 9) with e | e | e | e | e | e | e | e | e | e <;> subst e <;> (repeat (first | rw [pst_o (by omega)] | rw [pst_e]))
theorem psT_o {o : Nat} {d : Nat → Int} {h : zH} {x k : Nat} (q : x ≠ o) : psT o d h x k = h x k := by
  unfold psT
  rw [pst_o (by omega), pst_o (by omega), pst_o (by omega), pst_o (by omega), pst_o (by omega), pst_o (by omega), pst_o (by omega), pst_o (by omega), pst_o (by omega), pst_o (by omega)]
theorem c_pad {x y t : Int} : Zx 37 0 [zR 200, zL x, zN, zL y, zN, zL t, zN] [] (Z0 n) h = some (none, Z0 n, psT 200 (plF x y t) h) := b37_0
theorem m_pad {w l x y t : Int} {h1 : zH} (hr : Zx 183 0 [zR 202, zI l] [] (Z0 n) h = some (some (zI t), Z0 n, h1)) (ht : zint t) : Zx 203 38 [zR 202, zI w, zI l, zL x, zN, zL y, zN, zN, zN] [zI l, zR 202] (Z0 n) h = Zx 203 133 [zR 202, zI w, zI l, zN, zN, zN, zN, zN, zN] [] (Z0 n) (psT 230 (plF x y t) h1) := by
  have e := b203_38 (n := n) (h := h) (h1 := h1) (l1 := w) (l2 := l) (l3 := x) (l5 := y) (s1 := l) hr
  rw [ht.e] at e
  exact e
theorem RtD.cg6 {h' : zH} {D : pD} (V : RtD h D) (f : ∀ x k, x < 230 → h' x k = h x k) : RtD h' D := by
  obtain ⟨a, b, c, d, e, g, l, m, x, v⟩ := V
  exact ⟨a.cg (fun x i q => f x i (by omega)), b.cg (fun x i q => f x i (by omega)), c.cg (fun x i q => f x i (by omega)), fun i hi ti => by rw [f _ _ (by omega)]; exact d i hi ti, by rw [f _ _ (by omega)]; exact e, g, l, m, x.cg (fun i => f _ i (by omega)), fun i hi ti => by rw [f _ _ (by omega)]; exact v i hi ti⟩
theorem plS_s {D : pD} {w : Int} {i k : Nat} : plS D w i (k + 1) = plS D w i k + (if dT D k = true ∧ pP (dN D) (dW D) (dT D) k = w then plF ((k % dW D : Nat) : Int) ((k / dW D : Nat) : Int) (hgt (dF D) (dTl D) k) i else 0) := rfl
/-- one pixel for the class's plane -/
theorem c_pl1 {D : pD} {o x y k : Nat} {w : Int} (wD : wfD D) (hL : LX0 (Z0 n) o) (V : SvK h o (dW D) (dH D) (dN D) (dT D) (dF D) (dG D)) (hw : zint w) (hx : x < dW D) (hy : y < dH D) (hk : k = y * dW D + x) (hS : ∀ i, i < 10 → h 200 i = plS D w i k) : ∃ h', Zx 35 13 [zR 200, zR o, zI w, zR (o + 1), zI (y : Int), zI (x : Int), zN] [] (Z0 n) h = Zx 35 13 [zR 200, zR o, zI w, zR (o + 1), zI (y : Int), zI ((x + 1 : Nat) : Int), zN] [] (Z0 n) h' ∧ (∀ i, i < 10 → h' 200 i = plS D w i (k + 1)) ∧ ∀ z i, z ≠ 200 → h' z i = h z i := by
  have n1 := dN25 wD
  have a1 := wD.1
  have a2 := wD.2.1
  have hD := wfS_D wD
  have kl : k < dN D := by rw [hk]; exact pix_lt hx hy
  have km : k % dW D = x := by rw [hk, Nat.mul_comm, Nat.mul_add_mod]; exact Nat.mod_eq_of_lt hx
  have kd : k / dW D = y := by rw [hk, Nat.mul_comm, Nat.mul_add_div (by omega), Nat.div_eq_of_lt hx, Nat.add_zero]
  have eI : (y : Int) * (dW D : Int) + (x : Int) = (k : Int) := by rw [hk, Int.natCast_add, Int.natCast_mul]
  have st := b35_13 (n := n) (h := h) (l1 := o) (l2 := w) (l3 := o + 1) (l4 := (y : Int)) (l5 := (x : Int)) hL hL.scene (by rw [V.sc.1, eI]; intros; omega) (by rw [V.sc.1, eI]; intros; omega) (by rw [V.sc.1, eI]; intros; omega) (by rw [V.sc.1, eI]; intros; omega)
  have pr := (V.sc.2.2.2 k kl).1
  rw [V.sc.1, zw_nat (n := dW D) (by omega), zw_nat (n := x) (by omega), if_neg (by omega), eI, Int.toNat_natCast, pr, zw_nat (n := y) (by omega), hw.e] at st
  have no : (¬ (dT D k = true ∧ pP (dN D) (dW D) (dT D) k = w)) → Zx 35 13 [zR 200, zR o, zI w, zR (o + 1), zI (y : Int), zI (x : Int), zN] [] (Z0 n) h = Zx 35 45 [zR 200, zR o, zI w, zR (o + 1), zI (y : Int), zI (x : Int), zN] [] (Z0 n) h → ∃ h', Zx 35 13 [zR 200, zR o, zI w, zR (o + 1), zI (y : Int), zI (x : Int), zN] [] (Z0 n) h = Zx 35 13 [zR 200, zR o, zI w, zR (o + 1), zI (y : Int), zI ((x + 1 : Nat) : Int), zN] [] (Z0 n) h' ∧ (∀ i, i < 10 → h' 200 i = plS D w i (k + 1)) ∧ ∀ z i, z ≠ 200 → h' z i = h z i := fun q e => by
    refine ⟨h, ?_, fun i hi => ?_, fun _ _ _ => rfl⟩
    · rw [e, b35_45 hL hL.scene]
      rfl
    · rw [plS_s, if_neg q, Int.add_zero]
      exact hS i hi
  by_cases t : dT D k = true
  case neg =>
    rw [if_neg t, if_pos zw0] at st
    exact no (fun z => t z.1) st
  have pp : h (o + 1 + 4) k = pP (dN D) (dW D) (dT D) k := (V.pw kl t).1
  have pi := pP_in hD kl t
  have hb := hgb wD kl t
  rw [if_pos t, if_neg (show ¬ zw 1 = 0 by decide), pp, zw_id (z := pP (dN D) (dW D) (dT D) k) (by omega) (by omega)] at st
  by_cases p : pP (dN D) (dW D) (dT D) k = w
  case neg =>
    rw [if_pos p] at st
    exact no (fun z => p z.2) st
  rw [if_neg (fun z => z p), b35_42 hL hL.scene hL (s_hgt hL V hD kl t), b35_44 hL hL.scene c_pad, b35_45 hL hL.scene] at st
  refine ⟨_, st, fun i hi => ?_, fun z i q => psT_o q⟩
  rw [psT_e hi, hS i hi, plS_s, if_pos ⟨t, p⟩, km, kd, show zw (hgt (dF D) (ctl (dN D) (dW D) (dT D) (dF D) (dG D)) k) = hgt (dF D) (ctl (dN D) (dW D) (dT D) (dF D) (dG D)) k from zw_id (by have := hb.1; show _ ≤ hgt (dF D) (dTl D) k; omega) (by have := hb.2; show hgt (dF D) (dTl D) k < _; omega)]
/-- Plane.gather -/
theorem c_pls {D : pD} {o : Nat} {w : Int} (wD : wfD D) (hL : LX0 (Z0 n) o) (ho : o + 15 < 200) (V : SvK h o (dW D) (dH D) (dN D) (dT D) (dF D) (dG D)) (hw : zint w) : ∃ h', Zx 35 0 [zR 200, zR o, zI w, zN, zN, zN, zN] [] (Z0 n) h = some (none, Z0 n, h') ∧ (∀ i, i < 10 → h' 200 i = plS D w i (dN D)) ∧ ∀ z i, z ≠ 200 → h' z i = h z i := by
  have a1 := wD.1
  have a2 := wD.2.1
  obtain ⟨h0, e0, z0, f0⟩ : ∃ h0, Zx 36 0 [zR 200] [] (Z0 n) h = some (none, Z0 n, h0) ∧ (∀ i, i < 10 → h0 200 i = 0) ∧ ∀ z i, z ≠ 200 → h0 z i = h z i := by
    refine ⟨_, b36_0, fun i hi => ?_, fun z i q => by (repeat (first | rw [zu_eq] | rw [zu_off (by omega)]))⟩
    rcases (by omega : i = 0 ∨ i = 1 ∨ i = 2 ∨ i = 3 ∨ i = 4 ∨ i = 5 ∨ i = 6 ∨ i = 7 ∨ i = 8 ∨ i = 9) with e | e | e | e | e | e | e | e | e | e <;> subst e <;> (repeat (first | rw [zu_off (by omega)] | rw [zu_eq]))
  obtain ⟨h1, e1, S1, f1⟩ := z_inv (N := dH D) (X := fun y (u : zH) => Zx 35 7 [zR 200, zR o, zI w, zR (o + 1), zI (y : Int), zN, zN] [] (Z0 n) u) (I := fun y u => (∀ i, i < 10 → u 200 i = plS D w i (y * dW D)) ∧ ∀ z i, z ≠ 200 → u z i = h z i) (s := h0) ⟨fun i hi => by rw [Nat.zero_mul]; exact z0 i hi, f0⟩ (fun y u hy Iu => by
    obtain ⟨u', e, S', f'⟩ := z_inv (N := dW D) (X := fun x (u : zH) => Zx 35 13 [zR 200, zR o, zI w, zR (o + 1), zI (y : Int), zI (x : Int), zN] [] (Z0 n) u) (I := fun x u => (∀ i, i < 10 → u 200 i = plS D w i (y * dW D + x)) ∧ ∀ z i, z ≠ 200 → u z i = h z i) (s := u) Iu (fun x u hx Iu => by
      obtain ⟨u', a, b, c⟩ := c_pl1 (n := n) (x := x) (y := y) wD hL (V.cg2 (fun z i a b => Iu.2 z i (by omega))) hw hx hy rfl Iu.1
      exact ⟨u', a, b, fun z i q => by rw [c z i q]; exact Iu.2 z i q⟩)
    refine ⟨u', ?_, by rw [Nat.succ_mul]; exact S', f'⟩
    have r1 : u (o + 1) 1 = (dH D : Int) := by rw [Iu.2 _ _ (by omega)]; exact V.sc.2.1
    have r0 : u' (o + 1) 0 = (dW D : Int) := by rw [f' _ _ (by omega)]; exact V.sc.1
    show Zx 35 7 _ _ _ _ = Zx 35 7 _ _ _ _
    rw [b35_7 hL hL.scene, r1, zw_nat (by omega), zw_nat (by omega), if_neg (by omega)]
    refine e.trans ?_
    show Zx 35 13 _ _ _ _ = _
    rw [b35_13 hL hL.scene (by rw [r0]; intro q; exact absurd (Int.le_refl _) q) (by rw [r0]; intro q; exact absurd (Int.le_refl _) q) (by rw [r0]; intro q; exact absurd (Int.le_refl _) q) (by rw [r0]; intro q; exact absurd (Int.le_refl _) q), r0, if_pos (Int.le_refl _)]
    rfl)
  refine ⟨h1, ?_, ?_, f1⟩
  · have r1 : h1 (o + 1) 1 = (dH D : Int) := by rw [f1 _ _ (by omega)]; exact V.sc.2.1
    rw [b35_0 hL, b35_1 hL e0]
    refine e1.trans ?_
    show Zx 35 7 _ _ _ _ = _
    rw [b35_7 hL hL.scene, r1, if_pos (Int.le_refl _)]
  · rw [show dH D * dW D = dN D from Nat.mul_comm _ _] at S1
    exact S1
/-- FringeBenchModel.findSums -/
theorem m_pls {D : pD} {w : Int} (wD : wfD D) (V : RtD h D) (hw : zint w) (hw0 : 0 ≤ w) : ∃ h', Zx 203 0 [zR 202, zI w, zN, zN, zN, zN, zN, zN, zN] [] (Z0 n) h = some (none, Z0 n, h') ∧ (∀ i, i < 10 → h' 230 i = plS D w i (dN D)) ∧ ∀ z i, z ≠ 230 → h' z i = h z i := by
  have n1 := dN25 wD
  have a1 := wD.1
  have a2 := wD.2.1
  have hD := wfS_D wD
  obtain ⟨h0, e0, z0, f0⟩ := z_inv (N := 10) (X := fun k (u : zH) => Zx 203 2 [zR 202, zI w, zI (k : Int), zN, zN, zN, zN, zN, zN] [] (Z0 n) u) (I := fun k u => (∀ i, i < k → u 230 i = 0) ∧ ∀ z i, z ≠ 230 → u z i = h z i) (s := h) ⟨fun i q => absurd q (Nat.not_lt_zero i), fun _ _ _ => rfl⟩ (fun k u hk Iu => by
    refine ⟨zu u 230 k 0, ?_, fun i hi => ?_, fun z i q => by rw [zu_off (by omega)]; exact Iu.2 z i q⟩
    · show Zx 203 2 _ _ _ _ = _
      rw [b203_2 (by intros; omega) (by intros; omega), zw_nat (by omega), if_neg (by omega), Int.toNat_natCast]
      rfl
    · by_cases c : i = k
      · rw [c, zu_eq]
      · rw [zu_off (by omega)]; exact Iu.1 i (by omega))
  obtain ⟨h1, e1, S1, f1⟩ := z_inv (N := dN D) (X := fun k (u : zH) => Zx 203 14 [zR 202, zI w, zI (k : Int), zN, zN, zN, zN, zN, zN] [] (Z0 n) u) (I := fun k u => (∀ i, i < 10 → u 230 i = plS D w i k) ∧ ∀ z i, z ≠ 230 → u z i = h z i) (s := h0) ⟨z0, f0⟩ (fun k u hk Iu => by
    have Vu : RtD u D := V.cg6 (fun z i q => Iu.2 z i (by omega))
    have e217 := Vu.2.1.2 k hk
    have st := b203_14 (n := n) (h := u) (l1 := w) (l2 := (k : Int)) (by intros; omega) (by intros; omega) (by rw [Vu.1.1, zw_nat (n := dW D) (by omega)]; intros; omega) (by rw [Vu.1.1, zw_nat (n := dW D) (by omega)]; intros; omega)
    rw [Vu.1.2.2.1, zw_nat (n := dN D) (by omega), zw_nat (n := k) (by omega), if_neg (by omega), Int.toNat_natCast, Vu.1.1, zw_nat (n := dW D) (by omega), show Int.tmod (k : Int) (dW D : Int) = ((k % dW D : Nat) : Int) from (Int.ofNat_tmod k (dW D)).symm, show Int.tdiv (k : Int) (dW D : Int) = ((k / dW D : Nat) : Int) from (Int.ofNat_tdiv k (dW D)).symm, e217, hw.e] at st
    have no : (¬ (dT D k = true ∧ pP (dN D) (dW D) (dT D) k = w)) → Zx 203 14 [zR 202, zI w, zI (k : Int), zN, zN, zN, zN, zN, zN] [] (Z0 n) u = Zx 203 133 [zR 202, zI w, zI (k : Int), zN, zN, zN, zN, zN, zN] [] (Z0 n) u → ∃ u', Zx 203 14 [zR 202, zI w, zI (k : Int), zN, zN, zN, zN, zN, zN] [] (Z0 n) u = Zx 203 14 [zR 202, zI w, zI ((k + 1 : Nat) : Int), zN, zN, zN, zN, zN, zN] [] (Z0 n) u' ∧ (∀ i, i < 10 → u' 230 i = plS D w i (k + 1)) ∧ ∀ z i, z ≠ 230 → u' z i = h z i := fun q e => by
      refine ⟨u, ?_, fun i hi => ?_, Iu.2⟩
      · rw [e, b203_133]
        rfl
      · rw [plS_s, if_neg q, Int.add_zero]
        exact Iu.1 i hi
    by_cases t : dT D k = true
    case neg =>
      rw [if_neg t, if_pos (show ¬ zw (-1) = w by rw [zwm1]; omega)] at st
      exact no (fun z => t z.1) st
    have pi := pP_in hD hk t
    have hb := hgb wD hk t
    rw [if_pos t, zw_id (z := pP (dN D) (dW D) (dT D) k) (by omega) (by omega)] at st
    by_cases p : pP (dN D) (dW D) (dT D) k = w
    case neg =>
      rw [if_pos p] at st
      exact no (fun z => p z.2) st
    have q1 : k % dW D < dW D := Nat.mod_lt _ (by omega)
    have q2 : k / dW D ≤ k := Nat.div_le_self _ _
    rw [if_neg (fun z => z p), zw_nat (n := k % dW D) (by omega), zw_nat (n := k / dW D) (by omega), m_pad (m_hgt Vu hD hk t) (by have e := hb; exact ⟨by show _ ≤ hgt (dF D) (dTl D) k; omega, by show hgt (dF D) (dTl D) k < _; omega⟩), b203_133] at st
    refine ⟨_, st, fun i hi => ?_, fun z i q => by rw [psT_o q]; exact Iu.2 z i q⟩
    rw [psT_e hi, Iu.1 i hi, plS_s, if_pos ⟨t, p⟩])
  refine ⟨h1, ?_, S1, f1⟩
  have V1 : RtD h1 D := V.cg6 (fun z i q => f1 z i (by omega))
  rw [b203_0]
  refine e0.trans ?_
  show Zx 203 2 _ _ _ _ = _
  rw [b203_2 (fun q => absurd (by decide) q) (fun q => absurd (by decide) q), if_pos (by decide)]
  refine e1.trans ?_
  show Zx 203 14 _ _ _ _ = _
  rw [b203_14 (by rw [V1.1.2.2.1]; intro q; exact absurd (Int.le_refl _) q) (by rw [V1.1.2.2.1]; intro q; exact absurd (Int.le_refl _) q) (by rw [V1.1.2.2.1]; intro q; exact absurd (Int.le_refl _) q) (by rw [V1.1.2.2.1]; intro q; exact absurd (Int.le_refl _) q), V1.1.2.2.1, if_pos (Int.le_refl _)]
/-- the answer out of the sums -/
def pl3 (a b c d e f g h i : Int) : Int := a * (e * i - f * h) - b * (d * i - f * g) + c * (d * h - e * g)
def plV (s : Nat → Int) (w : Int) : Int :=
  if ¬ zw (zlcmp (pl3 (s 0) (s 1) (s 2) (s 1) (s 3) (s 4) (s 2) (s 4) (s 5)) 0) = 0 then
    if w = 0 then pl3 (s 6) (s 1) (s 2) (s 7) (s 3) (s 4) (s 8) (s 4) (s 5)
    else if w = 1 then pl3 (s 0) (s 6) (s 2) (s 1) (s 7) (s 4) (s 2) (s 8) (s 5)
    else if w = 2 then pl3 (s 0) (s 1) (s 6) (s 1) (s 3) (s 7) (s 2) (s 4) (s 8)
    else if w = 3 then pl3 (s 0) (s 1) (s 2) (s 1) (s 3) (s 4) (s 2) (s 4) (s 5)
    else pl3 (s 0) (s 1) (s 2) (s 1) (s 3) (s 4) (s 2) (s 4) (s 5) * s 9 - pl3 (s 6) (s 1) (s 2) (s 7) (s 3) (s 4) (s 8) (s 4) (s 5) * s 6 - pl3 (s 0) (s 6) (s 2) (s 1) (s 7) (s 4) (s 2) (s 8) (s 5) * s 7 - pl3 (s 0) (s 1) (s 6) (s 1) (s 3) (s 7) (s 2) (s 4) (s 8) * s 8
  else -9223372036854775808
theorem c_plv {w : Int} (hw : 0 ≤ w ∧ w ≤ 4) : Zx 38 0 [zR 200, zI w, zN, zN, zN, zN, zN, zN, zN, zN] [] (Z0 n) h = some (some (zL (plV (fun i => h 200 i) w)), Z0 n, h) := by
  have e : Zx 38 0 [zR 200, zI w, zN, zN, zN, zN, zN, zN, zN, zN] [] (Z0 n) h = if ¬ zw (zlcmp (pl3 (h 200 0) (h 200 1) (h 200 2) (h 200 1) (h 200 3) (h 200 4) (h 200 2) (h 200 4) (h 200 5)) 0) = 0 then Zx 38 (zfind (zw w) [(0, 188), (1, 190), (2, 192), (3, 194)] 196) [zR 200, zI w, zL (pl3 (h 200 0) (h 200 1) (h 200 2) (h 200 1) (h 200 3) (h 200 4) (h 200 2) (h 200 4) (h 200 5)), zN, zL (pl3 (h 200 6) (h 200 1) (h 200 2) (h 200 7) (h 200 3) (h 200 4) (h 200 8) (h 200 4) (h 200 5)), zN, zL (pl3 (h 200 0) (h 200 6) (h 200 2) (h 200 1) (h 200 7) (h 200 4) (h 200 2) (h 200 8) (h 200 5)), zN, zL (pl3 (h 200 0) (h 200 1) (h 200 6) (h 200 1) (h 200 3) (h 200 7) (h 200 2) (h 200 4) (h 200 8)), zN] [] (Z0 n) h else some (some (zL (-9223372036854775808)), Z0 n, h) := b38_0
  rw [e]
  unfold plV
  (try dsimp only)
  generalize pl3 (h 200 0) (h 200 1) (h 200 2) (h 200 1) (h 200 3) (h 200 4) (h 200 2) (h 200 4) (h 200 5) = a
  generalize pl3 (h 200 6) (h 200 1) (h 200 2) (h 200 7) (h 200 3) (h 200 4) (h 200 8) (h 200 4) (h 200 5) = b
  generalize pl3 (h 200 0) (h 200 6) (h 200 2) (h 200 1) (h 200 7) (h 200 4) (h 200 2) (h 200 8) (h 200 5) = c
  generalize pl3 (h 200 0) (h 200 1) (h 200 6) (h 200 1) (h 200 3) (h 200 7) (h 200 2) (h 200 4) (h 200 8) = d
  by_cases z : ¬ zw (zlcmp a 0) = 0
  case neg => rw [if_neg z, if_neg z]
  rw [if_pos z, if_pos z]
  rcases (by omega : w = 0 ∨ w = 1 ∨ w = 2 ∨ w = 3 ∨ w = 4) with e | e | e | e | e <;> subst e
  · show Zx 38 188 _ _ _ _ = _
    refine (Zx_nm (L' := [zN, zN, zN, zN, zL b, zN, zN, zN, zN, zN]) rfl rfl).trans ?_
    exact b38_188
  · show Zx 38 190 _ _ _ _ = _
    refine (Zx_nm (L' := [zN, zN, zN, zN, zN, zN, zL c, zN, zN, zN]) rfl rfl).trans ?_
    exact b38_190
  · show Zx 38 192 _ _ _ _ = _
    refine (Zx_nm (L' := [zN, zN, zN, zN, zN, zN, zN, zN, zL d, zN]) rfl rfl).trans ?_
    exact b38_192
  · show Zx 38 194 _ _ _ _ = _
    refine (Zx_nm (L' := [zN, zN, zL a, zN, zN, zN, zN, zN, zN, zN]) rfl rfl).trans ?_
    exact b38_194
  · show Zx 38 196 _ _ _ _ = _
    refine (Zx_nm (L' := [zR 200, zN, zL a, zN, zL b, zN, zL c, zN, zL d, zN]) rfl rfl).trans ?_
    exact b38_196
theorem m_vol {S : zS} {a b c d e f g i j : Int} : Zx 204 0 [zL a, zN, zL b, zN, zL c, zN, zL d, zN, zL e, zN, zL f, zN, zL g, zN, zL i, zN, zL j, zN] [] S h = some (some (zL (pl3 a b c d e f g i j)), S, h) := b204_0
theorem m_plv {w : Int} (hw : 0 ≤ w ∧ w ≤ 4) : Zx 205 55 [zN, zN, zN, zI w, zR 230, zN, zN, zN, zN, zN, zN, zN, zN] [zL (h 230 5), zL (h 230 4), zL (h 230 2), zL (h 230 4), zL (h 230 3), zL (h 230 1), zL (h 230 2), zL (h 230 1), zL (h 230 0)] (Z0 n) h = some (some (zL (plV (fun i => h 230 i) w)), Z0 n, h) := by
  have hc := zcl230 n
  rw [b205_55 hc (by omega) m_vol (by intros; omega) (by intros; omega) (by intros; omega) (by intros; omega) (by intros; omega) (by intros; omega) (by intros; omega) (by intros; omega) (by intros; omega)]
  unfold plV
  (try dsimp only)
  by_cases z : ¬ zw (zlcmp (pl3 (h 230 0) (h 230 1) (h 230 2) (h 230 1) (h 230 3) (h 230 4) (h 230 2) (h 230 4) (h 230 5)) 0) = 0
  case neg => rw [if_neg z, if_neg z]
  rw [if_pos z, if_pos z, b205_90 hc (by omega) m_vol (by intros; omega) (by intros; omega) (by intros; omega) (by intros; omega) (by intros; omega) (by intros; omega) (by intros; omega) (by intros; omega) (by intros; omega), b205_119 hc (by omega) m_vol (by intros; omega) (by intros; omega) (by intros; omega) (by intros; omega) (by intros; omega) (by intros; omega) (by intros; omega) (by intros; omega) (by intros; omega), b205_148 hc (by omega) m_vol (by intros; omega) (by intros; omega) (by intros; omega) (by intros; omega), zw_id (z := w) (by omega) (by omega)]
  by_cases e0 : w = 0
  · rw [if_neg (fun z => z e0), if_pos e0, b205_192]
  rw [if_pos e0, if_neg e0]
  by_cases e1 : w = 1
  · rw [if_neg (fun z => z e1), if_pos e1, b205_192]
  rw [if_pos e1, if_neg e1]
  by_cases e2 : w = 2
  · rw [if_neg (fun z => z e2), if_pos e2, b205_192]
  rw [if_pos e2, if_neg e2]
  by_cases e3 : w = 3
  · rw [if_neg (fun z => z e3), if_pos e3, b205_192]
  rw [if_pos e3, if_neg e3, b205_192]
theorem plV_cg {s t : Nat → Int} {w : Int} (h : ∀ i, i < 10 → s i = t i) : plV s w = plV t w := by
  unfold plV
  rw [h 0 (by omega), h 1 (by omega), h 2 (by omega), h 3 (by omega), h 4 (by omega), h 5 (by omega), h 6 (by omega), h 7 (by omega), h 8 (by omega), h 9 (by omega)]
/-- plane -/
theorem op_plane (hA : wfA A) {p k w : Int} (hp : zint p) (hk : zint k) (hw : zint w) : OpL n 123 205 [zR 1, zI p, zI k, zI w] [zR 202, zI p, zI k, zI w, zN, zN, zN, zN, zN, zN, zN, zN, zN] A := by
  have np := hA.2.1
  have z1 : ¬ zw 1 = 0 := by decide
  have iw := fun (g : zH) => s_inz (S := Z0 n) (h := g) (a := w) (b := 0) (c := 4) hw ⟨by omega, by omega⟩ ⟨by omega, by omega⟩
  by_cases cp : 0 ≤ p ∧ p < aNp A
  case neg =>
    refine ⟨-9223372036854775808, fun h hS => ⟨h, ?_, hS, frC.rf⟩, fun g hM => ⟨zu g 202 0 0, ?_, frM0⟩⟩
    · rw [b123_0, hw.e]
      by_cases c : w < 0
      · rw [if_pos c, b123_10]
      rw [if_neg c]
      by_cases d : 4 < w
      · rw [if_pos d, b123_10]
      rw [if_neg d, b123_8 (c_ipt0 hS hA hp cp), if_neg (fun z => z zw0), b123_10]
    · rw [b205_0, b205_5 (m_lay0 (McT0 hM) hA hp cp), if_pos zw0, b205_20]
  obtain ⟨p, rfl, hp'⟩ := nat_of cp
  have p3 : p < 3 := by omega
  have wD := hA.2.2.1 p hp'
  have m25 := pM25 (wfS_D wD)
  by_cases good : (0 ≤ w ∧ w ≤ 4) ∧ 0 ≤ k ∧ k < pM (dN (aPic A p)) (dW (aPic A p)) (dT (aPic A p))
  case neg =>
    refine ⟨-9223372036854775808, fun h hS => ?_, fun g hM => ?_⟩
    · rw [b123_0, hw.e]
      by_cases c : w < 0
      · rw [if_pos c]; exact ⟨h, b123_10, hS, frC.rf⟩
      rw [if_neg c]
      by_cases d : 4 < w
      · rw [if_pos d]; exact ⟨h, b123_10, hS, frC.rf⟩
      obtain ⟨h1, e1, S1, f1⟩ := c_ipt (n := n) hS hA hp' hk
      refine ⟨h1, ?_, S1, f1⟩
      rw [if_neg d, b123_8 e1, if_neg (fun z => z (zif_pos (by omega))), b123_10]
    · obtain ⟨g1, e1, H1, V1, n1, f1⟩ := m_layP (n := n) (McT0 (v := 0) (k := 0) hM) hA hp'
      refine ⟨g1, ?_, f1.tr frM0⟩
      have hi := s_inz (S := Z0 n) (h := g1) (a := k) (b := 0) (c := (pM (dN (aPic A p)) (dW (aPic A p)) (dT (aPic A p)) : Int) - 1) hk ⟨by omega, by omega⟩ ⟨by omega, by omega⟩
      rw [b205_0, b205_5 e1, if_neg z1, V1.2.1.1, b205_13 hi]
      by_cases c : 0 ≤ k ∧ k ≤ (pM (dN (aPic A p)) (dW (aPic A p)) (dT (aPic A p)) : Int) - 1
      case neg => rw [if_pos (zif_pos c), b205_20]
      rw [if_neg (zif_neg c), b205_18 (iw _), if_neg (fun z => z (zif_pos (by omega))), b205_20]
  obtain ⟨gw, gk⟩ := good
  refine ⟨plV (fun i => plS (aPic A p) k i (dN (aPic A p))) w, fun h hS => ?_, fun g hM => ?_⟩
  · obtain ⟨h1, e1, S1, f1⟩ := c_ipt (n := n) hS hA hp' hk
    obtain ⟨h2, e2, S2, V2, f2, -⟩ := c_htk (n := n) S1 hA hp'
    obtain ⟨h3, e3, s3, f3⟩ := c_pls (n := n) wD (LX0_p p3) (by omega) V2 hk
    refine ⟨h3, ?_, S2.cg hA (fun x i _ => f3 x i (by omega)), fun x i a => by rw [f3 x i (by omega), f2 x i (by omega)]; exact f1 x i a⟩
    rw [b123_0, hw.e, if_neg (by omega), if_neg (by omega), b123_8 e1, if_pos (zif_neg gk), b123_16 (LX0_p p3) e2, b123_18 (LX0_p p3) e3, b123_22 (c_plv gw), plV_cg s3]
  · obtain ⟨g1, e1, H1, V1, n1, f1⟩ := m_layP (n := n) (McT0 (v := 0) (k := 0) hM) hA hp'
    obtain ⟨g2, e2, s2, f2⟩ := m_pls (n := n) wD V1 hk gk.1
    refine ⟨g2, ?_, fun x i a => (f2 x i (by omega)).trans ((f1 x i a).trans (frM0 x i a))⟩
    have hi := s_inz (S := Z0 n) (h := g1) (a := k) (b := 0) (c := (pM (dN (aPic A p)) (dW (aPic A p)) (dT (aPic A p)) : Int) - 1) hk ⟨by omega, by omega⟩ ⟨by omega, by omega⟩
    rw [b205_0, b205_5 e1, if_neg z1, V1.2.1.1, b205_13 hi, if_neg (zif_neg (by omega)), b205_18 (iw _), if_pos (zif_neg gw), b205_24 e2, m_plv gw, plV_cg s2]
end PLN
