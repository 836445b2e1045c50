/-! QUESTIONS: stitch, best -/
section STI
variable {n : Nat} {h : zH} {A : aS}
def stI (D1 D2 : pD) (dx dy : Int) (k : Nat) : Nat := (((k / dW D2 : Nat) : Int) + dy).toNat * dW D1 + (((k % dW D2 : Nat) : Int) + dx).toNat
def stc (D1 D2 : pD) (dx dy : Int) (k : Nat) : Bool := decide (0 ≤ ((k % dW D2 : Nat) : Int) + dx ∧ ((k % dW D2 : Nat) : Int) + dx < dW D1 ∧ 0 ≤ ((k / dW D2 : Nat) : Int) + dy ∧ ((k / dW D2 : Nat) : Int) + dy < dH D1) && dT D1 (stI D1 D2 dx dy k) && dT D2 k
noncomputable def std (D1 D2 : pD) (dx dy : Int) (k : Nat) : Int := hgt (dF D1) (dTl D1) (stI D1 D2 dx dy k) - hgt (dF D2) (dTl D2) k
abbrev sQ : Type := Int × Int × Int × Int
def stA (s : sQ) (d : Int) : sQ := (s.1 + 1, s.2.1 + d, (if s.1 = 0 then d else if d < s.2.2.1 then d else s.2.2.1), (if s.1 = 0 then d else if s.2.2.2 < d then d else s.2.2.2))
noncomputable def stS (D1 D2 : pD) (dx dy : Int) : Nat → sQ
  | 0 => (0, 0, 0, 0)
  | k + 1 => if stc D1 D2 dx dy k = true then stA (stS D1 D2 dx dy k) (std D1 D2 dx dy k) else stS D1 D2 dx dy k
theorem stI_lt {D1 D2 : pD} {dx dy : Int} {k : Nat} (c : 0 ≤ ((k % dW D2 : Nat) : Int) + dx ∧ ((k % dW D2 : Nat) : Int) + dx < dW D1 ∧ 0 ≤ ((k / dW D2 : Nat) : Int) + dy ∧ ((k / dW D2 : Nat) : Int) + dy < dH D1) : stI D1 D2 dx dy k < dN D1 := by
  unfold stI
  exact pix_lt (by omega) (by omega)
theorem hgb {D : pD} (hw : wfD D) {k : Nat} (hk : k < dN D) (tk : dT D k = true) : -400000 ≤ hgt (dF D) (dTl D) k ∧ hgt (dF D) (dTl D) k ≤ 400000 := ctl_bd (wfS_D hw) hk tk
theorem stc_e {D1 D2 : pD} {dx dy : Int} {k : Nat} (h : stc D1 D2 dx dy k = true) : (0 ≤ ((k % dW D2 : Nat) : Int) + dx ∧ ((k % dW D2 : Nat) : Int) + dx < dW D1 ∧ 0 ≤ ((k / dW D2 : Nat) : Int) + dy ∧ ((k / dW D2 : Nat) : Int) + dy < dH D1) ∧ dT D1 (stI D1 D2 dx dy k) = true ∧ dT D2 k = true := by
  unfold stc at h
  rw [Bool.and_eq_true, Bool.and_eq_true, decide_eq_true_eq] at h
  exact ⟨h.1.1, h.1.2, h.2⟩
theorem std_in {D1 D2 : pD} (h1 : wfD D1) (h2 : wfD D2) {dx dy : Int} {k : Nat} (hk : k < dN D2) (c : stc D1 D2 dx dy k = true) : -800000 ≤ std D1 D2 dx dy k ∧ std D1 D2 dx dy k ≤ 800000 := by
  obtain ⟨c1, c2, c3⟩ := stc_e c
  have a := hgb h1 (stI_lt c1) c2
  have b := hgb h2 hk c3
  unfold std
  omega
theorem stS_in {D1 D2 : pD} (h1 : wfD D1) (h2 : wfD D2) {dx dy : Int} : ∀ k, k ≤ dN D2 → (0 ≤ (stS D1 D2 dx dy k).1 ∧ (stS D1 D2 dx dy k).1 ≤ k) ∧ (-800000 * (k : Int) ≤ (stS D1 D2 dx dy k).2.1 ∧ (stS D1 D2 dx dy k).2.1 ≤ 800000 * k) ∧ (-800000 ≤ (stS D1 D2 dx dy k).2.2.1 ∧ (stS D1 D2 dx dy k).2.2.1 ≤ 800000) ∧ -800000 ≤ (stS D1 D2 dx dy k).2.2.2 ∧ (stS D1 D2 dx dy k).2.2.2 ≤ 800000
  | 0, _ => ⟨⟨Int.le_refl _, Int.le_refl _⟩, ⟨Int.le_refl _, Int.le_refl _⟩, ⟨by show (-800000 : Int) ≤ 0; omega, by show (0 : Int) ≤ 800000; omega⟩, by show (-800000 : Int) ≤ 0; omega, by show (0 : Int) ≤ 800000; omega⟩
  | k + 1, hk => by
    have i := stS_in h1 h2 (dx := dx) (dy := dy) k (by omega)
    unfold stS
    by_cases c : stc D1 D2 dx dy k = true
    · have d := std_in h1 h2 (show k < dN D2 by omega) c
      rw [if_pos c]
      unfold stA
      (try dsimp only)
      refine ⟨by omega, by omega, ?_, ?_⟩
      · split
        · omega
        · split <;> omega
      · split
        · omega
        · split <;> omega
    · rw [if_neg c]
      omega
/-- what Stitching holds -/
def StC (h : zH) (s : sQ) : Prop := h 201 0 = s.1 ∧ h 201 1 = s.2.1 ∧ (s.1 ≠ 0 → h 201 2 = s.2.2.1 ∧ h 201 3 = s.2.2.2)
/-- one step of Stitching.lay -/
theorem c_sst {D1 D2 : pD} {o1 o2 : Nat} {dx dy : Int} {x y k : Nat} (w1 : wfD D1) (w2 : wfD D2) (hL1 : LX0 (Z0 n) o1) (hL2 : LX0 (Z0 n) o2) (ho : o1 < 202 ∧ o1 + 15 < 201 ∧ o2 + 15 < 201) (V1 : SvK h o1 (dW D1) (dH D1) (dN D1) (dT D1) (dF D1) (dG D1)) (V2 : SvK h o2 (dW D2) (dH D2) (dN D2) (dT D2) (dF D2) (dG D2)) (hx : x < dW D2) (hy : y < dH D2) (hk : k = y * dW D2 + x) (hdx : -4 ≤ dx ∧ dx ≤ 4) (hdy : -4 ≤ dy ∧ dy ≤ 4) (hS : StC h (stS D1 D2 dx dy k)) : ∃ h', Zx 86 15 [zR 201, zR o1, zR o2, zI dx, zI dy, zI (y : Int), zI (x : Int), zN, zN] [] (Z0 n) h = Zx 86 15 [zR 201, zR o1, zR o2, zI dx, zI dy, zI (y : Int), zI ((x + 1 : Nat) : Int), zN, zN] [] (Z0 n) h' ∧ StC h' (stS D1 D2 dx dy (k + 1)) ∧ ∀ x i, x ≠ 201 → h' x i = h x i := by
  have n1 := dN25 w1
  have n2 := dN25 w2
  have a1 := w1.1
  have a2 := w1.2.1
  have a3 := w2.1
  have a4 := w2.2.1
  have kl : k < dN D2 := by rw [hk]; exact pix_lt hx hy
  have km : k % dW D2 = x := by rw [hk, Nat.mul_comm, Nat.mul_add_mod]; exact Nat.mod_eq_of_lt hx
  have kd : k / dW D2 = y := by rw [hk, Nat.mul_comm, Nat.mul_add_div (by omega), Nat.div_eq_of_lt hx, Nat.add_zero]
  have si := stS_in w1 w2 (dx := dx) (dy := dy) k (by omega)
  have es : stS D1 D2 dx dy (k + 1) = if stc D1 D2 dx dy k = true then stA (stS D1 D2 dx dy k) (std D1 D2 dx dy k) else stS D1 D2 dx dy k := rfl
  have st := b86_15 (n := n) (h := h) (l1 := o1) (l2 := o2) (l3 := dx) (l4 := dy) (l5 := (y : Int)) (l6 := (x : Int)) hL1 hL2
  rw [V2.sc.1, V1.sc.1, V1.sc.2.1, zw_nat (n := dW D2) (by omega), zw_nat (n := x) (by omega), if_neg (by omega), zw_nat (n := dW D1) (by omega), zw_nat (n := dH D1) (by omega), zw_id (z := (x : Int) + dx) (by omega) (by omega), zw_id (z := (y : Int) + dy) (by omega) (by omega)] at st
  have same : stc D1 D2 dx dy k = false → Zx 86 15 [zR 201, zR o1, zR o2, zI dx, zI dy, zI (y : Int), zI (x : Int), zN, zN] [] (Z0 n) h = Zx 86 60 [zR 201, zR o1, zR o2, zI dx, zI dy, zI (y : Int), zI (x : Int), zN, zN] [] (Z0 n) h → ∃ h', Zx 86 15 [zR 201, zR o1, zR o2, zI dx, zI dy, zI (y : Int), zI (x : Int), zN, zN] [] (Z0 n) h = Zx 86 15 [zR 201, zR o1, zR o2, zI dx, zI dy, zI (y : Int), zI ((x + 1 : Nat) : Int), zN, zN] [] (Z0 n) h' ∧ StC h' (stS D1 D2 dx dy (k + 1)) ∧ ∀ x i, x ≠ 201 → h' x i = h x i := fun q e => by
    refine ⟨h, ?_, by rw [es, q, if_neg (by decide)]; exact hS, fun x i _ => rfl⟩
    rw [e, b86_60 hL1 hL2]
    rfl
  by_cases cc : 0 ≤ (x : Int) + dx ∧ (x : Int) + dx < dW D1 ∧ 0 ≤ (y : Int) + dy ∧ (y : Int) + dy < dH D1
  case neg =>
    refine same ?_ ?_
    · unfold stc
      rw [km, kd, decide_eq_false cc]; rfl
    · rw [st]
      by_cases c1 : (x : Int) + dx < 0
      · rw [if_pos c1]
      · rw [if_neg c1]
        by_cases c2 : (dW D1 : Int) ≤ (x : Int) + dx
        · rw [if_pos c2]
        · rw [if_neg c2]
          by_cases c3 : (y : Int) + dy < 0
          · rw [if_pos c3]
          · rw [if_neg c3, if_pos (by omega)]
  have iI : stI D1 D2 dx dy k = ((y : Int) + dy).toNat * dW D1 + ((x : Int) + dx).toNat := by
    unfold stI
    rw [km, kd]
  have il : stI D1 D2 dx dy k < dN D1 := stI_lt (by rw [km, kd]; exact cc)
  have eI : ((y : Int) + dy) * (dW D1 : Int) + ((x : Int) + dx) = (stI D1 D2 dx dy k : Int) := by
    rw [iI, Int.natCast_add, Int.natCast_mul, Int.toNat_of_nonneg cc.2.2.1, Int.toNat_of_nonneg cc.1]
  have eK : (y : Int) * (dW D2 : Int) + (x : Int) = (k : Int) := by
    rw [hk, Int.natCast_add, Int.natCast_mul]
  rw [if_neg (by omega), if_neg (by omega), if_neg (by omega), if_neg (by omega), eI, eK] at st
  have t1 := V1.sc.th il
  have t2 := V2.sc.th kl
  have mt := b87_0 (n := n) (h := h) (l1 := o1) (l2 := (stI D1 D2 dx dy k : Int)) (l3 := o2) (l4 := (k : Int)) hL1 hL2 (by omega) (by omega) (by omega) (by omega)
  rw [Int.toNat_natCast, Int.toNat_natCast] at mt
  by_cases c1 : zw (zb1 (h (o1 + 2) (stI D1 D2 dx dy k))) = 0
  · rw [if_pos c1, b87_12] at mt
    rw [b86_59 hL1 hL2 hL1 hL2 mt] at st
    refine same ?_ st
    unfold stc
    have := t1.mp c1
    rw [this, Bool.and_false, Bool.false_and]
  rw [if_neg c1] at mt
  by_cases c2 : zw (zb1 (h (o2 + 2) k)) = 0
  · rw [if_neg (fun z => z c2), b87_12] at mt
    rw [b86_59 hL1 hL2 hL1 hL2 mt] at st
    refine same ?_ st
    unfold stc
    rw [t2.mp c2, Bool.and_false]
  rw [if_pos c2] at mt
  have T1 : dT D1 (stI D1 D2 dx dy k) = true := by
    cases q : dT D1 (stI D1 D2 dx dy k)
    · exact absurd (t1.mpr q) c1
    · rfl
  have T2 : dT D2 k = true := by
    cases q : dT D2 k
    · exact absurd (t2.mpr q) c2
    · rfl
  have yes : stc D1 D2 dx dy k = true := by
    unfold stc
    rw [km, kd, decide_eq_true cc, T1, T2]; rfl
  have di := std_in w1 w2 kl yes
  have ed : hgt (dF D1) (ctl (dN D1) (dW D1) (dT D1) (dF D1) (dG D1)) (stI D1 D2 dx dy k) - hgt (dF D2) (ctl (dN D2) (dW D2) (dT D2) (dF D2) (dG D2)) k = std D1 D2 dx dy k := rfl
  obtain ⟨h0, h1, h23⟩ := hS
  rw [b87_15 hL2 hL1 (s_hgt hL1 V1 (wfS_D w1) il T1), b87_18 hL2 (s_hgt hL2 V2 (wfS_D w2) kl T2), ed, h0, zw_id (z := (stS D1 D2 dx dy k).1) (by omega) (by omega)] at mt
  rw [es, if_pos yes]
  by_cases c3 : (stS D1 D2 dx dy k).1 = 0
  · rw [if_neg (fun z => z c3), b87_31, zu_off (by omega), h0, zw_id (z := (stS D1 D2 dx dy k).1) (by omega) (by omega), if_neg (fun z => z c3), b87_42] at mt
    rw [b86_59 hL1 hL2 hL1 hL2 mt, b86_60 hL1 hL2] at st
    refine ⟨_, st, ⟨?_, ?_, fun _ => ⟨?_, ?_⟩⟩, fun x i q => by (repeat (first | rw [zu_eq] | rw [zu_off (by omega)]))⟩
    · (repeat (first | rw [zu_eq] | rw [zu_off (by omega)])); rw [h0]; rfl
    · (repeat (first | rw [zu_eq] | rw [zu_off (by omega)])); rw [h1]; rfl
    · (repeat (first | rw [zu_eq] | rw [zu_off (by omega)]))
      show _ = (if (stS D1 D2 dx dy k).1 = 0 then std D1 D2 dx dy k else _)
      rw [if_pos c3]
    · (repeat (first | rw [zu_eq] | rw [zu_off (by omega)]))
      show _ = (if (stS D1 D2 dx dy k).1 = 0 then std D1 D2 dx dy k else _)
      rw [if_pos c3]
  · obtain ⟨h2, h3⟩ := h23 c3
    have mn := s_min (S := Z0 n) (h := h) (a := (stS D1 D2 dx dy k).2.2.1) (b := std D1 D2 dx dy k) ⟨by omega, by omega⟩ ⟨by omega, by omega⟩
    rw [if_pos c3, h2, b87_30 mn, b87_31] at mt
    generalize hv : (if std D1 D2 dx dy k < (stS D1 D2 dx dy k).2.2.1 then std D1 D2 dx dy k else (stS D1 D2 dx dy k).2.2.1) = v at *
    have mx := s_max (S := Z0 n) (h := zu h 201 2 v) (a := (stS D1 D2 dx dy k).2.2.2) (b := std D1 D2 dx dy k) ⟨by omega, by omega⟩ ⟨by omega, by omega⟩
    rw [zu_off (by omega), h0, zw_id (z := (stS D1 D2 dx dy k).1) (by omega) (by omega), if_pos c3, zu_off (by omega), h3, b87_41 mx, b87_42] at mt
    rw [b86_59 hL1 hL2 hL1 hL2 mt, b86_60 hL1 hL2] at st
    refine ⟨_, st, ⟨?_, ?_, fun _ => ⟨?_, ?_⟩⟩, fun x i q => by (repeat (first | rw [zu_eq] | rw [zu_off (by omega)]))⟩
    · (repeat (first | rw [zu_eq] | rw [zu_off (by omega)])); rw [h0]; rfl
    · (repeat (first | rw [zu_eq] | rw [zu_off (by omega)])); rw [h1]; rfl
    · (repeat (first | rw [zu_eq] | rw [zu_off (by omega)]))
      show _ = (if (stS D1 D2 dx dy k).1 = 0 then std D1 D2 dx dy k else if std D1 D2 dx dy k < (stS D1 D2 dx dy k).2.2.1 then std D1 D2 dx dy k else (stS D1 D2 dx dy k).2.2.1)
      rw [if_neg c3, hv]
    · (repeat (first | rw [zu_eq] | rw [zu_off (by omega)]))
      show _ = (if (stS D1 D2 dx dy k).1 = 0 then std D1 D2 dx dy k else if (stS D1 D2 dx dy k).2.2.2 < std D1 D2 dx dy k then std D1 D2 dx dy k else (stS D1 D2 dx dy k).2.2.2)
      rw [if_neg c3]
/-- Stitching.lay -/
theorem c_lay {D1 D2 : pD} {o1 o2 : Nat} {dx dy : Int} (w1 : wfD D1) (w2 : wfD D2) (hL1 : LX0 (Z0 n) o1) (hL2 : LX0 (Z0 n) o2) (ho : o1 < 202 ∧ o1 + 15 < 201 ∧ o2 + 15 < 201) (V1 : SvK h o1 (dW D1) (dH D1) (dN D1) (dT D1) (dF D1) (dG D1)) (V2 : SvK h o2 (dW D2) (dH D2) (dN D2) (dT D2) (dF D2) (dG D2)) (hdx : -4 ≤ dx ∧ dx ≤ 4) (hdy : -4 ≤ dy ∧ dy ≤ 4) : ∃ h', Zx 86 0 [zR 201, zR o1, zR o2, zI dx, zI dy, zN, zN, zN, zN] [] (Z0 n) h = some (none, Z0 n, h') ∧ StC h' (stS D1 D2 dx dy (dN D2)) ∧ ∀ x i, x ≠ 201 → h' x i = h x i := by
  have a3 := w2.1
  have a4 := w2.2.1
  obtain ⟨h1, e1, S1, f1⟩ := z_inv (N := dH D2) (X := fun y (u : zH) => Zx 86 8 [zR 201, zR o1, zR o2, zI dx, zI dy, zI (y : Int), zN, zN, zN] [] (Z0 n) u) (I := fun y u => StC u (stS D1 D2 dx dy (y * dW D2)) ∧ ∀ x i, x ≠ 201 → u x i = h x i) (s := zu (zu h 201 0 0) 201 1 0) ⟨⟨by (repeat (first | rw [zu_eq] | rw [zu_off (by omega)])) <;> (rw [Nat.zero_mul]; rfl), by rw [zu_eq, Nat.zero_mul]; rfl, fun q => by rw [Nat.zero_mul] at q; exact absurd rfl q⟩, fun x i q => by (repeat (first | rw [zu_eq] | rw [zu_off (by omega)]))⟩ (fun y u hy Iu => by
    obtain ⟨u', e, S', f'⟩ := z_inv (N := dW D2) (X := fun x (u : zH) => Zx 86 15 [zR 201, zR o1, zR o2, zI dx, zI dy, zI (y : Int), zI (x : Int), zN, zN] [] (Z0 n) u) (I := fun x u => StC u (stS D1 D2 dx dy (y * dW D2 + x)) ∧ ∀ x i, x ≠ 201 → u x i = h x i) (s := u) ⟨Iu.1, Iu.2⟩ (fun x u hx Iu => by
      obtain ⟨u', a, b, c⟩ := c_sst (n := n) (x := x) (y := y) w1 w2 hL1 hL2 ho (V1.cg2 (fun z i a b => Iu.2 z i (by omega))) (V2.cg2 (fun z i a b => Iu.2 z i (by omega))) hx hy rfl hdx hdy Iu.1
      exact ⟨u', a, b, fun z i q => by rw [c z i q]; exact Iu.2 z i q⟩)
    refine ⟨u', ?_, by rw [Nat.succ_mul]; exact S', f'⟩
    have r1 : u (o2 + 1) 1 = (dH D2 : Int) := by rw [Iu.2 _ _ (by omega)]; exact V2.sc.2.1
    have r0 : u' (o2 + 1) 0 = (dW D2 : Int) := by rw [f' _ _ (by omega)]; exact V2.sc.1
    show Zx 86 8 _ _ _ _ = Zx 86 8 _ _ _ _
    rw [b86_8 hL1 hL2, r1, zw_nat (by omega), zw_nat (by omega), if_neg (by omega)]
    refine e.trans ?_
    show Zx 86 15 _ _ _ _ = _
    rw [b86_15 hL1 hL2, r0, if_pos (Int.le_refl _)]
    rfl)
  refine ⟨h1, ?_, ?_, f1⟩
  · have r1 : h1 (o2 + 1) 1 = (dH D2 : Int) := by rw [f1 _ _ (by omega)]; exact V2.sc.2.1
    rw [b86_0 hL1 hL2]
    refine e1.trans ?_
    show Zx 86 8 _ _ _ _ = _
    rw [b86_8 hL1 hL2, r1, if_pos (Int.le_refl _)]
  · have : dH D2 * dW D2 = dN D2 := Nat.mul_comm _ _
    rw [this] at S1
    exact S1
/-- Stitching.apart -/
theorem c_apt {s : sQ} (hS : StC h s) (hs : zint s.1) : Zx 88 0 [zR 201] [] (Z0 n) h = some (some (zI (if s.1 = 0 then 0 else s.2.2.2 - s.2.2.1)), Z0 n, h) := by
  rw [b88_0, hS.1, hs.e, b88_10, b88_10]
  by_cases c : s.1 = 0
  · rw [if_neg (fun z => z c), if_pos c]
  · obtain ⟨a, b⟩ := hS.2.2 c
    rw [if_pos c, if_neg c, a, b]
end STI
