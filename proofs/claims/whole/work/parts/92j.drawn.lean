/-! QUESTIONS: drawn -/
section OPJ
variable {n : Nat} {h : zH} {A : aS}
theorem ex_cnt {T : Nat → Bool} {w : Int} (h0 : 0 ≤ w) : ∀ N, w < su (fun i => if T i = true then 1 else 0) N → ∃ k, k < N ∧ T k = true ∧ su (fun i => if T i = true then 1 else 0) k = w
  | 0, h => absurd h (by show ¬ w < 0; omega)
  | N + 1, h => by
    rw [su] at h
    by_cases c : w < su (fun i => if T i = true then 1 else 0) N
    · obtain ⟨k, a, b, d⟩ := ex_cnt h0 N c
      exact ⟨k, by omega, b, d⟩
    · by_cases t : T N = true
      · rw [if_pos t] at h
        exact ⟨N, by omega, t, by omega⟩
      · rw [if_neg t] at h; omega
/-- FringeBenchModel.thereAt -/
theorem m_tha {W H N : Nat} {T : Nat → Bool} {F G : Nat → Int} (hR : RfC h W H N T F G) (h25 : N ≤ 25) {w : Int} (h0 : 0 ≤ w) (h1 : w < cnT N T) : ∃ k : Nat, k < N ∧ T k = true ∧ fst (fun k => T k && decide (su (fun i => if T i = true then 1 else 0) k = w)) N = (k : Int) ∧ Zx 216 0 [zR 202, zI w, zN, zN] [] (Z0 n) h = some (some (zI (k : Int)), Z0 n, h) := by
  have ci := cnT_in (T := T) N
  rcases fst_cases (fun k => T k && decide (su (fun i => if T i = true then 1 else 0) k = w)) N with ⟨-, g⟩ | ⟨k, k1, k2, k3, k4⟩
  · obtain ⟨k, a, b, d⟩ := ex_cnt h0 N h1
    have := g k a
    (try dsimp only at this)
    rw [b, decide_eq_true d] at this
    cases this
  · rw [Bool.and_eq_true, decide_eq_true_eq] at k3
    refine ⟨k, k1, k3.1, k2, ?_⟩
    have sb : ∀ i, i ≤ N → 0 ≤ su (fun i => if T i = true then (1 : Int) else 0) i ∧ su (fun i => if T i = true then (1 : Int) else 0) i ≤ i := fun i _ => cnT_in (T := T) i
    have e := z_chain (N := k) (X := fun i => Zx 216 4 [zR 202, zN, zI (w - su (fun i => if T i = true then 1 else 0) i), zI (i : Int)] [] (Z0 n) h) (fun i hi => by
      have th := hR.th (k := i) (by omega)
      have s := sb i (by omega)
      have nk := k4 i hi
      have es : su (fun i => if T i = true then (1 : Int) else 0) (i + 1) = su (fun i => if T i = true then 1 else 0) i + (if T i = true then 1 else 0) := rfl
      show Zx 216 4 _ _ _ _ = Zx 216 4 [zR 202, zN, zI (w - su (fun i => if T i = true then 1 else 0) (i + 1)), zI ((i + 1 : Nat) : Int)] [] (Z0 n) h
      rw [es, b216_4 (by intros; omega) (by intros; omega), hR.2.2.1, zw_nat (by omega), zw_nat (by omega), if_neg (by omega), Int.toNat_natCast, zw_id (z := w - su (fun i => if T i = true then 1 else 0) i) (by omega) (by omega)]
      by_cases t : T i = true
      · have nz : ¬ w - su (fun i => if T i = true then (1 : Int) else 0) i = 0 := fun z => by
          rw [t, decide_eq_true (show su (fun i => if T i = true then (1 : Int) else 0) i = w by omega)] at nk
          cases nk
        rw [if_neg (fun z => by rw [th.mp z] at t; cases t), if_pos nz, b216_18, if_pos t]
        rw [show w - su (fun i => if T i = true then (1 : Int) else 0) i + -1 = w - (su (fun i => if T i = true then 1 else 0) i + 1) by omega]
        rfl
      · rw [if_pos (th.mpr (not_t t)), b216_18, if_neg t, Int.add_zero]
        rfl)
    have th := hR.th (k := k) (by omega)
    have e0 : w - su (fun i => if T i = true then (1 : Int) else 0) 0 = w := by show w - 0 = w; omega
    (try dsimp only at e)
    rw [e0] at e
    rw [b216_0]
    refine Eq.trans e ?_
    rw [b216_4 (by intros; omega) (by intros; omega), hR.2.2.1, zw_nat (by omega), zw_nat (by omega), if_neg (by omega), Int.toNat_natCast, if_neg (fun z => by have := th.mp z; rw [k3.1] at this; cases this), zw_id (by omega) (by omega), if_neg (fun z => z (by omega))]
/-- one draw in the reference -/
theorem m_drw {W H N : Nat} {T : Nat → Bool} {F G : Nat → Int} {x k w : Int} {i : Nat} (hw : wfS W H N T F G) (hn : cnT N T ≠ 0) (hR : RfC h W H N T (drF N T x F i) G) (h30 : h 202 30 = cnT N T) (h57 : h 202 57 = drs x (2 * i)) (hk : 1 ≤ k ∧ k ≤ 20) (hi : (i : Int) < k) : ∃ g, Zx 219 27 [zR 202, zN, zN, zI k, zI w, zI (i : Int), zN] [] (Z0 n) h = Zx 219 27 [zR 202, zN, zN, zI k, zI w, zI ((i + 1 : Nat) : Int), zN] [] (Z0 n) g ∧ RfC g W H N T (drF N T x F (i + 1)) G ∧ g 202 30 = cnT N T ∧ g 202 57 = drs x (2 * (i + 1)) ∧ ∀ y j, y ≠ 215 → ¬ (y = 202 ∧ j = 57) → g y j = h y j := by
  have h25 := hw.2.2.2.1
  have ci := cnT_in (T := T) N
  have cpos : 0 < cnT N T := by omega
  have d1 := drn_in (x := x) (n := cnT N T) (i := 2 * i + 1) cpos
  have d2 := drn_in (x := x) (n := 400) (i := 2 * i + 2) (by omega)
  have wi := drF_wf (x := x) hw i
  have zc := zw_id (z := cnT N T) (by omega) (by omega)
  have e1 : Zx 215 0 [zR 202, zI (cnT N T)] [] (Z0 n) h = some (some (zI (drn x (cnT N T) (2 * i + 1))), Z0 n, zu h 202 57 (drs x (2 * i + 1))) := by
    rw [b215_0 (by rw [zc]; omega), zu_eq, h57, zc]
    rfl
  have R1 : RfC (zu h 202 57 (drs x (2 * i + 1))) W H N T (drF N T x F i) G := hR.cg (fun y j q => by rw [zu_off (by omega)])
  obtain ⟨q, q1, q2, q3, q4⟩ := m_tha (n := n) R1 h25 d1.1 d1.2
  have e3 : Zx 215 0 [zR 202, zI 400] [] (Z0 n) (zu h 202 57 (drs x (2 * i + 1))) = some (some (zI (drn x 400 (2 * i + 2))), Z0 n, zu (zu h 202 57 (drs x (2 * i + 1))) 202 57 (drs x (2 * i + 2))) := by
    rw [b215_0 (by decide), zu_eq, zu_eq]
    rfl
  have rq := (wi.2.2.2.2 q q1)
  have eq' : drF N T x F (i + 1) = fu (drF N T x F i) q (Int.tmod (zw (drF N T x F i q + drn x 400 (2 * i + 2))) 400) := by
    rw [drF]
    have : drp N T x i = (q : Int) := q3
    rw [this, if_neg (by omega), Int.toNat_natCast]
  refine ⟨zu (zu (zu h 202 57 (drs x (2 * i + 1))) 202 57 (drs x (2 * i + 2))) 215 q (Int.tmod (zw (drF N T x F i q + drn x 400 (2 * i + 2))) 400), ?_, ?_, ?_, ?_, fun y j r1 r2 => ?_⟩
  · rw [b219_27, zw_id (z := k) (by omega) (by omega), zw_nat (by omega), if_neg (by omega), h30, b219_34 e1, b219_35 q4, b219_41 e3, b219_42 (b217_0 (n := n) (by omega) (by omega) (by omega) (by omega)), Int.toNat_natCast, zu_off (by omega), zu_off (by omega), (hR.2.2.2.1 q q1).2.1]
    rfl
  · rw [eq']
    obtain ⟨a, b, c, d, e⟩ := hR
    refine ⟨by (repeat (first | rw [zu_eq] | rw [zu_off (by omega)])); exact a, by (repeat (first | rw [zu_eq] | rw [zu_off (by omega)])); exact b, by (repeat (first | rw [zu_eq] | rw [zu_off (by omega)])); exact c, fun j hj => ?_, fun j hj hj2 => by (repeat (first | rw [zu_eq] | rw [zu_off (by omega)])); exact e j hj hj2⟩
    obtain ⟨f1, f2, f3⟩ := d j hj
    refine ⟨by (repeat (first | rw [zu_eq] | rw [zu_off (by omega)])); exact f1, ?_, by (repeat (first | rw [zu_eq] | rw [zu_off (by omega)])); exact f3⟩
    by_cases z : j = q
    · subst z
      rw [zu_eq, fu_same]
    · rw [zu_off (by omega), zu_off (by omega), zu_off (by omega), fu_ne z]
      exact f2
  · (repeat (first | rw [zu_eq] | rw [zu_off (by omega)])); exact h30
  · (repeat (first | rw [zu_eq] | rw [zu_off (by omega)]))
    rfl
  · rw [zu_off (by omega), zu_off (by omega), zu_off (by omega)]
/-- drawn -/
theorem op_drawn (hA : wfA A) {p x k w : Int} (hp : zint p) (hx : zint x) (hk : zint k) (hw : zint w) : OpI n 127 219 [zR 1, zI p, zI x, zI k, zI w, zN] [zR 202, zI p, zI x, zI k, zI w, zN, zN] A := by
  have hi := fun (g : zH) => s_inz (S := Z0 n) (h := g) (a := k) (b := 1) (c := 20) hk ⟨by omega, by omega⟩ ⟨by omega, by omega⟩
  have hj := fun (g : zH) => s_inz (S := Z0 n) (h := g) (a := w) (b := 0) (c := 2) hw ⟨by omega, by omega⟩ ⟨by omega, by omega⟩
  by_cases ca : (1 ≤ k ∧ k ≤ 20) ∧ 0 ≤ w ∧ w ≤ 2
  case neg =>
    refine ⟨-1, fun h hS => ⟨h, ?_, hS, frC.rf⟩, fun g hM => ⟨zu g 202 0 0, ?_, frM0⟩⟩
    · by_cases cp : 0 ≤ p ∧ p < aNp A
      · obtain ⟨p, rfl, hp'⟩ := nat_of cp
        rw [b127_0, b127_2 (c_isp1 hS hA hp'), if_neg (show ¬ zw 1 = 0 by decide), hk.e, hw.e]
        by_cases d1 : k < 1
        · rw [if_pos d1, b127_15]
        · rw [if_neg d1]
          by_cases d2 : 20 < k
          · rw [if_pos d2, b127_15]
          · rw [if_neg d2]
            by_cases d3 : w < 0
            · rw [if_pos d3, b127_15]
            · rw [if_neg d3, if_neg (by omega), b127_15]
      · rw [b127_0, b127_2 (c_isp0 hS hA hp cp), if_pos zw0, b127_15]
    · rw [b219_0, b219_6 (hi _)]
      by_cases d1 : 1 ≤ k ∧ k ≤ 20
      · rw [if_neg (zif_neg d1), b219_11 (hj _), if_pos (zif_pos (fun z => ca ⟨d1, z⟩)), b219_20]
      · rw [if_pos (zif_pos d1), b219_20]
  obtain ⟨ck, cw⟩ := ca
  by_cases cp : 0 ≤ p ∧ p < aNp A
  case neg =>
    refine ⟨-1, fun h hS => ⟨h, ?_, hS, frC.rf⟩, fun g hM => ⟨zu g 202 0 0, ?_, frM0⟩⟩
    · rw [b127_0, b127_2 (c_isp0 hS hA hp cp), if_pos zw0, b127_15]
    · rw [b219_0, b219_6 (hi _), if_neg (zif_neg ck), b219_11 (hj _), if_neg (zif_neg cw), b219_15 (m_han0 (McT0 hM) hA hp cp), if_pos zw0, b219_20]
  obtain ⟨p, rfl, hp'⟩ := nat_of cp
  have np := hA.2.1
  have p3 : p < 3 := by omega
  have wD := hA.2.2.1 p hp'
  have hD := wfS_D wD
  have hN := dN25 wD
  have ci := cnT_in (T := dT (aPic A p)) (dN (aPic A p))
  obtain ⟨m, rfl, hm⟩ := nat_of (m := 21) (p := k) ⟨by omega, by omega⟩
  have hDm := drF_wf (x := x) hD m
  have cl0 : ∀ h, ClS h A → ∃ h1, Zx 127 0 [zR 1, zI (p : Int), zI x, zI (m : Int), zI w, zN] [] (Z0 n) h = (if ¬ cnT (dN (aPic A p)) (dT (aPic A p)) = 0 then Zx 127 31 [zN, zN, zN, zN, zI w, zR 173] [zI (m : Int), zI x, zR 174] (Z0 n) h1 else some (some (zI (-1)), Z0 n, h1)) ∧ ScC h1 174 (dW (aPic A p)) (dH (aPic A p)) (dN (aPic A p)) (dT (aPic A p)) (dF (aPic A p)) (dG (aPic A p)) ∧ ∀ x i, (x < 174 ∨ 177 < x) → h1 x i = h x i := fun h hS => by
    obtain ⟨h1, e1, s1, f1⟩ := c_sup (n := n) hS hA hp'
    refine ⟨h1, ?_, s1, f1⟩
    have ct := s_cth (S := Z0 n) (LX0_173 n).scene s1 hD.2.2.2.1
    have ct' : Zx 69 0 [zR 174, zN, zN] [] (Z0 n) h1 = some (some (zI (cnT (dN (aPic A p)) (dT (aPic A p)))), Z0 n, h1) := ct
    rw [b127_0, b127_2 (c_isp1 hS hA hp'), if_neg (show ¬ zw 1 = 0 by decide), hk.e, hw.e, if_neg (by omega), if_neg (by omega), if_neg (by omega), if_pos (by omega), b127_19 (LX0_173 n) e1, b127_23 (LX0_173 n) (LX0_173 n).scene ct', zw_id (z := cnT (dN (aPic A p)) (dT (aPic A p))) (by omega) (by omega)]
  have mo0 : ∀ g, McT g 0 A → ∃ g1, Zx 219 0 [zR 202, zI (p : Int), zI x, zI (m : Int), zI w, zN, zN] [] (Z0 n) g = (if ¬ cnT (dN (aPic A p)) (dT (aPic A p)) = 0 then Zx 219 27 [zR 202, zN, zN, zI (m : Int), zI w, zI 0, zN] [] (Z0 n) (zu g1 202 57 x) else some (some (zI (-1)), Z0 n, g1)) ∧ RfD g1 (aPic A p) ∧ g1 202 30 = cnT (dN (aPic A p)) (dT (aPic A p)) ∧ frM g1 g := fun g hM => by
    obtain ⟨g1, e1, H1, R1, n1, f1⟩ := m_han (n := n) (McT0 (v := 0) (k := 0) hM) hA hp'
    have n1' : g1 202 30 = cnT (dN (aPic A p)) (dT (aPic A p)) := n1
    refine ⟨g1, ?_, R1, n1', f1.tr frM0⟩
    rw [b219_0, b219_6 (hi _), if_neg (zif_neg ck), b219_11 (hj _), if_neg (zif_neg cw), b219_15 e1, if_neg (show ¬ zw 1 = 0 by decide), n1', zw_id (z := cnT (dN (aPic A p)) (dT (aPic A p))) (by omega) (by omega), b219_20]
  by_cases c0 : cnT (dN (aPic A p)) (dT (aPic A p)) = 0
  · refine ⟨-1, fun h hS => ?_, fun g hM => ?_⟩
    · obtain ⟨h1, e1, s1, f1⟩ := cl0 h hS
      rw [if_neg (fun q => q c0)] at e1
      exact ⟨h1, e1, hS.cg hA (fun x i q => f1 x i (by omega)), fun x i q => f1 x i (by omega)⟩
    · obtain ⟨g1, e1, -, -, f1⟩ := mo0 g hM
      rw [if_neg (fun q => q c0)] at e1
      exact ⟨g1, e1, f1⟩
  have cl : ∀ h, ClS h A → ∃ h2, Zx 127 0 [zR 1, zI (p : Int), zI x, zI (m : Int), zI w, zN] [] (Z0 n) h = Zx 127 (zfind w [(0, 34), (1, 37)] 47) [zN, zN, zN, zN, zI w, zR 173] [] (Z0 n) h2 ∧ ScC h2 174 (dW (aPic A p)) (dH (aPic A p)) (dN (aPic A p)) (dT (aPic A p)) (drF (dN (aPic A p)) (dT (aPic A p)) x (dF (aPic A p)) m) (dG (aPic A p)) ∧ ∀ x i, (x < 173 ∨ 191 < x) → h2 x i = h x i := fun h hS => by
    obtain ⟨h1, e1, s1, f1⟩ := cl0 h hS
    rw [if_pos c0] at e1
    obtain ⟨B, e2, b2⟩ := s_drw (S := Z0 n) (x := x) (m := m) (LX0_173 n).scene s1 hD (by omega) c0
    have s2 : ScC (h2 174 B h1) 174 (dW (aPic A p)) (dH (aPic A p)) (dN (aPic A p)) (dT (aPic A p)) (drF (dN (aPic A p)) (dT (aPic A p)) x (dF (aPic A p)) m) (dG (aPic A p)) := by
      obtain ⟨a1, a2, a3, a4⟩ := s1
      refine ⟨by rw [h2_o (by omega)]; exact a1, by rw [h2_o (by omega)]; exact a2, by rw [h2_o (by omega)]; exact a3, fun k hk => ?_⟩
      rw [h2_o (y := 174 + 1) (by omega), h2_o (y := 174 + 3) (by omega), h2_2]
      exact ⟨(a4 k hk).1, b2 k hk, (a4 k hk).2.2⟩
    refine ⟨_, ?_, s2, fun y i q => by rw [h2_o (by omega)]; exact f1 y i (by omega)⟩
    rw [e1, b127_31 (LX0_173 n) (LX0_173 n).scene e2, hw.e]
  have mo : ∀ g, McT g 0 A → ∃ g2, Zx 219 0 [zR 202, zI (p : Int), zI x, zI (m : Int), zI w, zN, zN] [] (Z0 n) g = (if ¬ w = 0 then (if ¬ w = 1 then some (some (zI (su (fun k => if dT (aPic A p) k = true then drF (dN (aPic A p)) (dT (aPic A p)) x (dF (aPic A p)) m k else 0) (dN (aPic A p)))), Z0 n, g2) else some (some (zI (cf (dW (aPic A p)) (dH (aPic A p)) (dT (aPic A p)) (drF (dN (aPic A p)) (dT (aPic A p)) x (dF (aPic A p)) m) 1 + cf (dW (aPic A p)) (dH (aPic A p)) (dT (aPic A p)) (drF (dN (aPic A p)) (dT (aPic A p)) x (dF (aPic A p)) m) (-1))), Z0 n, g2)) else some (some (zI (czo (dN (aPic A p)) (dW (aPic A p)) (dT (aPic A p)) (drF (dN (aPic A p)) (dT (aPic A p)) x (dF (aPic A p)) m) (dG (aPic A p)))), Z0 n, g2)) ∧ frM g2 g := fun g hM => by
    obtain ⟨g1, e1, R1, n1, f1⟩ := mo0 g hM
    rw [if_pos c0] at e1
    obtain ⟨g2, e2, R2, n2, k2, f2⟩ := z_inv (N := m) (X := fun i (u : zH) => Zx 219 27 [zR 202, zN, zN, zI (m : Int), zI w, zI (i : Int), zN] [] (Z0 n) u) (I := fun i u => RfC u (dW (aPic A p)) (dH (aPic A p)) (dN (aPic A p)) (dT (aPic A p)) (drF (dN (aPic A p)) (dT (aPic A p)) x (dF (aPic A p)) i) (dG (aPic A p)) ∧ u 202 30 = cnT (dN (aPic A p)) (dT (aPic A p)) ∧ u 202 57 = drs x (2 * i) ∧ ∀ y j, y ≠ 215 → ¬ (y = 202 ∧ j = 57) → u y j = g1 y j) (s := zu g1 202 57 x) ⟨R1.cg (fun y j q => by rw [zu_off (by omega)]), by rw [zu_off (by omega)]; exact n1, zu_eq, fun y j q1 q2 => by rw [zu_off (by omega)]⟩ (fun i u hi Iu => by
      obtain ⟨i1, i2, i3, i4⟩ := Iu
      obtain ⟨u', e, a, b, c, d⟩ := m_drw (n := n) (k := (m : Int)) (w := w) hD c0 i1 i2 i3 (by omega) (by omega)
      exact ⟨u', e, a, b, c, fun y j q1 q2 => by rw [d y j q1 q2]; exact i4 y j q1 q2⟩)
    obtain ⟨g3, z, tl, tg, e3, V3, f3⟩ := m_ftu (n := n) R2 hDm
    have R3 := V3.1
    have e23 := R3.2.2.1
    refine ⟨g3, ?_, fun y j q => by rw [f3 y j (by omega) (by omega), f2 y j (by omega) (by omega)]; exact f1 y j q⟩
    have sb : ∀ i, i ≤ dN (aPic A p) → 0 ≤ su (fun k => if dT (aPic A p) k = true then drF (dN (aPic A p)) (dT (aPic A p)) x (dF (aPic A p)) m k else 0) i ∧ su (fun k => if dT (aPic A p) k = true then drF (dN (aPic A p)) (dT (aPic A p)) x (dF (aPic A p)) m k else 0) i ≤ 400 * (i : Int) := by
      intro i
      induction i with
      | zero => intro _; exact ⟨Int.le_refl _, Int.le_refl _⟩
      | succ i ih =>
        intro hi
        have a := ih (by omega)
        rw [su]
        by_cases t : dT (aPic A p) i = true
        · have := hDm.f i (by omega) t
          rw [if_pos t]; omega
        · rw [if_neg t]; omega
    rw [e1]
    refine e2.trans ?_
    show Zx 219 27 _ _ _ _ = _
    rw [b219_27, if_pos (Int.le_refl _), b219_46 e3]
    refine (z_chain (N := dN (aPic A p)) (X := fun i => Zx 219 51 [zR 202, zN, zN, zN, zI w, zI (su (fun k => if dT (aPic A p) k = true then drF (dN (aPic A p)) (dT (aPic A p)) x (dF (aPic A p)) m k else 0) i), zI (i : Int)] [] (Z0 n) g3) (fun i hi => ?_)).trans ?_
    · show Zx 219 51 _ _ _ _ = Zx 219 51 _ _ _ _
      have th := R3.th hi
      rw [b219_51 (by intros; omega) (by intros; omega) (by intros; omega) (by intros; omega), e23, zw_nat (by omega), zw_nat (by omega), if_neg (by omega), Int.toNat_natCast, (R3.2.2.2.1 i hi).2.1, su]
      by_cases t : dT (aPic A p) i = true
      · rw [if_neg (fun q => by rw [th.mp q] at t; cases t), b219_67, if_pos t]; rfl
      · rw [if_pos (th.mpr (not_t t)), b219_67, if_neg t]; rfl
    · show Zx 219 51 _ _ _ _ = _
      rw [b219_51 (by rw [e23]; intro q; exact absurd (Int.le_refl _) q) (by rw [e23]; intro q; exact absurd (Int.le_refl _) q) (by rw [e23]; intro q; exact absurd (Int.le_refl _) q) (by rw [e23]; intro q; exact absurd (Int.le_refl _) q), e23, if_pos (Int.le_refl _), hw.e, (V3.cn hDm).2.2.2.2.1, b219_83, b219_83, b219_80 (m_fof R3 hDm), b219_83]
  by_cases w0 : w = 0
  · subst w0
    refine ⟨czo (dN (aPic A p)) (dW (aPic A p)) (dT (aPic A p)) (drF (dN (aPic A p)) (dT (aPic A p)) x (dF (aPic A p)) m) (dG (aPic A p)), fun h hS => ?_, fun g hM => ?_⟩
    · obtain ⟨h2, e2, s2, f2⟩ := cl h hS
      obtain ⟨h3, e3, -, -, f3⟩ := c_cost (n := n) s2 hDm
      refine ⟨h3, ?_, hS.cg hA (fun y i q => by rw [f3 y i (by omega)]; exact f2 y i (by omega)), fun y i q => by rw [f3 y i (by omega)]; exact f2 y i (by omega)⟩
      rw [e2]
      show Zx 127 34 _ _ _ _ = _
      refine (Zx_nm (L' := [zN, zN, zN, zN, zN, zR 173]) rfl rfl).trans ?_
      rw [b127_34 (LX0_173 n), b127_35 (LX0_173 n) e3]
    · obtain ⟨g2, e2, f2⟩ := mo g hM
      rw [if_neg (fun q => q rfl)] at e2
      exact ⟨g2, e2, f2⟩
  by_cases w1 : w = 1
  · subst w1
    refine ⟨cf (dW (aPic A p)) (dH (aPic A p)) (dT (aPic A p)) (drF (dN (aPic A p)) (dT (aPic A p)) x (dF (aPic A p)) m) 1 + cf (dW (aPic A p)) (dH (aPic A p)) (dT (aPic A p)) (drF (dN (aPic A p)) (dT (aPic A p)) x (dF (aPic A p)) m) (-1), fun h hS => ?_, fun g hM => ?_⟩
    · obtain ⟨h2, e2, s2, f2⟩ := cl h hS
      refine ⟨h2, ?_, hS.cg hA (fun y i q => f2 y i (by omega)), fun y i q => f2 y i (by omega)⟩
      rw [e2]
      show Zx 127 37 _ _ _ _ = _
      refine (Zx_nm (L' := [zN, zN, zN, zN, zN, zR 173]) rfl rfl).trans ?_
      rw [b127_37 (LX0_173 n), b127_40 (LX0_173 n) (LX0_173 n).scene (s_cf (LX0_173 n).scene s2 hDm ⟨by omega, by omega⟩), b127_44 (LX0_173 n).scene (s_cf (LX0_173 n).scene s2 hDm ⟨by omega, by omega⟩)]
    · obtain ⟨g2, e2, f2⟩ := mo g hM
      rw [if_pos (by decide), if_neg (fun q => q rfl)] at e2
      exact ⟨g2, e2, f2⟩
  · have w2 : w = 2 := by omega
    subst w2
    refine ⟨su (fun k => if dT (aPic A p) k = true then drF (dN (aPic A p)) (dT (aPic A p)) x (dF (aPic A p)) m k else 0) (dN (aPic A p)), fun h hS => ?_, fun g hM => ?_⟩
    · obtain ⟨h2, e2, s2, f2⟩ := cl h hS
      refine ⟨h2, ?_, hS.cg hA (fun y i q => f2 y i (by omega)), fun y i q => f2 y i (by omega)⟩
      rw [e2]
      show Zx 127 47 _ _ _ _ = _
      refine (Zx_nm (L' := [zN, zN, zN, zN, zN, zR 173]) rfl rfl).trans ?_
      rw [b127_47 (LX0_173 n), b127_49 (LX0_173 n).scene (s_sph (LX0_173 n).scene s2 hDm.2.2.2.1)]
    · obtain ⟨g2, e2, f2⟩ := mo g hM
      rw [if_pos (by decide), if_pos (by decide)] at e2
      exact ⟨g2, e2, f2⟩
end OPJ
