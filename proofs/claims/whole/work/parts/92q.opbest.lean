/-! QUESTIONS: best -/
section OPU
variable {n : Nat} {h : zH} {A : aS}
theorem m_bstp {D1 D2 : pD} {c : Nat} {w : Int} {h : zH} (w1 : wfD D1) (w2 : wfD D2) (V1 : RtD h D1) (hO : AsC h D2) (hc : c < 25) : ∃ g, Zx 211 33 [zR 202, zN, zN, zI w, zN, zI (bsF D1 D2 c).1, zI (bsF D1 D2 c).2.1, zI (bsF D1 D2 c).2.2, zI (c : Int)] [] (Z0 n) h = Zx 211 33 [zR 202, zN, zN, zI w, zN, zI (bsF D1 D2 (c + 1)).1, zI (bsF D1 D2 (c + 1)).2.1, zI (bsF D1 D2 (c + 1)).2.2, zI ((c + 1 : Nat) : Int)] [] (Z0 n) g ∧ ∀ x k, ¬ (x = 202 ∧ 54 ≤ k ∧ k ≤ 56) → g x k = h x k := by
  have n2 := dN25 w2
  have b := bsF_in w1 w2 c
  have q1 : c % 5 < 5 := Nat.mod_lt _ (by omega)
  have q2 : c / 5 < 5 := Nat.div_lt_of_lt_mul (by omega)
  obtain ⟨g, e, c54, -, c56, f⟩ := m_sby (n := n) (dx := ((c % 5 : Nat) : Int) - 2) (dy := ((c / 5 : Nat) : Int) - 2) w1 w2 V1 hO ⟨by omega, by omega⟩ ⟨by omega, by omega⟩
  have si := stS_in w1 w2 (dx := ((c % 5 : Nat) : Int) - 2) (dy := ((c / 5 : Nat) : Int) - 2) (dN D2) (Nat.le_refl _)
  have eb : bsF D1 D2 (c + 1) = if 2 ≤ (stS D1 D2 (((c % 5 : Nat) : Int) - 2) (((c / 5 : Nat) : Int) - 2) (dN D2)).1 ∧ ((bsF D1 D2 c).1 = -1 ∨ (stS D1 D2 (((c % 5 : Nat) : Int) - 2) (((c / 5 : Nat) : Int) - 2) (dN D2)).2.2.2 - (stS D1 D2 (((c % 5 : Nat) : Int) - 2) (((c / 5 : Nat) : Int) - 2) (dN D2)).2.2.1 < (bsF D1 D2 c).2.1 ∨ ((stS D1 D2 (((c % 5 : Nat) : Int) - 2) (((c / 5 : Nat) : Int) - 2) (dN D2)).2.2.2 - (stS D1 D2 (((c % 5 : Nat) : Int) - 2) (((c / 5 : Nat) : Int) - 2) (dN D2)).2.2.1 = (bsF D1 D2 c).2.1 ∧ (bsF D1 D2 c).2.2 < (stS D1 D2 (((c % 5 : Nat) : Int) - 2) (((c / 5 : Nat) : Int) - 2) (dN D2)).1)) then ((c : Int), (stS D1 D2 (((c % 5 : Nat) : Int) - 2) (((c / 5 : Nat) : Int) - 2) (dN D2)).2.2.2 - (stS D1 D2 (((c % 5 : Nat) : Int) - 2) (((c / 5 : Nat) : Int) - 2) (dN D2)).2.2.1, (stS D1 D2 (((c % 5 : Nat) : Int) - 2) (((c / 5 : Nat) : Int) - 2) (dN D2)).1) else bsF D1 D2 c := rfl
  refine ⟨g, ?_, f⟩
  rw [b211_33, zw_nat (n := c) (by omega), if_neg (by omega), show Int.tdiv (c : Int) 5 = ((c / 5 : Nat) : Int) from (Int.ofNat_tdiv c 5).symm, show Int.tmod (c : Int) 5 = ((c % 5 : Nat) : Int) from (Int.ofNat_tmod c 5).symm, b211_47 e, c54, c56]
  generalize hs : stS D1 D2 (((c % 5 : Nat) : Int) - 2) (((c / 5 : Nat) : Int) - 2) (dN D2) = s at *
  rw [zw_id (z := s.1) (by omega) (by omega), zw_id (z := (bsF D1 D2 c).1) (by omega) (by omega), zw_id (z := s.2.2.2 - s.2.2.1) (by omega) (by omega), zw_id (z := (bsF D1 D2 c).2.1) (by omega) (by omega), zw_id (z := (bsF D1 D2 c).2.2) (by omega) (by omega)]
  have yes : Zx 211 67 [zR 202, zN, zN, zI w, zN, zN, zN, zN, zI (c : Int)] [] (Z0 n) g = Zx 211 33 [zR 202, zN, zN, zI w, zN, zI (c : Int), zI (s.2.2.2 - s.2.2.1), zI s.1, zI ((c + 1 : Nat) : Int)] [] (Z0 n) g := by
    rw [b211_67, c54, c56, b211_75]
    rfl
  by_cases a1 : s.1 < 2
  · rw [if_pos a1, b211_75, eb, if_neg (by omega)]
    rfl
  rw [if_neg a1]
  by_cases a2 : (bsF D1 D2 c).1 = -1
  · rw [if_pos a2, eb, if_pos ⟨by omega, Or.inl a2⟩, yes]
  rw [if_neg a2]
  by_cases a3 : s.2.2.2 - s.2.2.1 < (bsF D1 D2 c).2.1
  · rw [if_pos a3, eb, if_pos ⟨by omega, Or.inr (Or.inl a3)⟩, yes]
  rw [if_neg a3]
  by_cases a4 : s.2.2.2 - s.2.2.1 = (bsF D1 D2 c).2.1
  case neg =>
    rw [if_pos a4, b211_75, eb, if_neg (by omega)]
    rfl
  rw [if_neg (fun z => z a4)]
  by_cases a5 : s.1 ≤ (bsF D1 D2 c).2.2
  · rw [if_pos a5, b211_75, eb, if_neg (by omega)]
    rfl
  · rw [if_neg a5, eb, if_pos ⟨by omega, Or.inr (Or.inr ⟨a4, by omega⟩)⟩, yes]
theorem RtD.cg5 {h' : zH} {D : pD} (V : RtD h D) (f : ∀ x k, ¬ (x = 202 ∧ 54 ≤ k ∧ k ≤ 56) → h' x k = h x k) : RtD h' D := by
  obtain ⟨a, b, c, d, e, g, l, m, x, v⟩ := V
  exact ⟨a.cg (fun x i q => f x i (by omega)), b.cg (fun x i q => f x i (by omega)), c.cg (fun x i q => f x i (by omega)), fun i hi ti => by rw [f _ _ (by omega)]; exact d i hi ti, by rw [f _ _ (by omega)]; exact e, g, l, m, x.cg (fun i => f _ i (by omega)), fun i hi ti => by rw [f _ _ (by omega)]; exact v i hi ti⟩
/-- what the class keeps of the place -/
noncomputable def bsS (b w : Int) : Int := if b = -1 then -9 else if w = 0 then Int.tmod b 5 - 2 else Int.tdiv b 5 - 2
theorem bsS_9 {b w : Int} (h : -1 ≤ b ∧ b < 25) : (bsS b w = -9 ↔ b = -1) ∧ -9 ≤ bsS b w ∧ bsS b w ≤ 2 := by
  unfold bsS
  by_cases c : b = -1
  · rw [if_pos c]
    omega
  · rw [if_neg c]
    obtain ⟨k, rfl⟩ : ∃ k : Nat, b = (k : Int) := ⟨b.toNat, by omega⟩
    rw [show Int.tdiv (k : Int) 5 = ((k / 5 : Nat) : Int) from (Int.ofNat_tdiv k 5).symm, show Int.tmod (k : Int) 5 = ((k % 5 : Nat) : Int) from (Int.ofNat_tmod k 5).symm]
    split <;> omega
theorem c_bstp {p q : Nat} {w : Int} {h : zH} (hS : ClS h A) (hA : wfA A) (hp : p < aNp A) (hq : q < aNp A) (hw : zint w) {y x : Nat} (hy : y < 5) (hx : x < 5) {o1 o2 : Nat} : ∃ g, Zx 132 23 [zR 1, zI (p : Int), zI (q : Int), zI w, zI (bsS (bsF (aPic A p) (aPic A q) (y * 5 + x)).1 w), zI (bsF (aPic A p) (aPic A q) (y * 5 + x)).2.1, zI (bsF (aPic A p) (aPic A q) (y * 5 + x)).2.2, zI ((y : Int) - 2), zI ((x : Int) - 2), zN, zN] [] (Z0 n) h = Zx 132 23 [zR 1, zI (p : Int), zI (q : Int), zI w, zI (bsS (bsF (aPic A p) (aPic A q) (y * 5 + x + 1)).1 w), zI (bsF (aPic A p) (aPic A q) (y * 5 + x + 1)).2.1, zI (bsF (aPic A p) (aPic A q) (y * 5 + x + 1)).2.2, zI ((y : Int) - 2), zI (((x + 1 : Nat) : Int) - 2), zN, zN] [] (Z0 n) g ∧ ClS g A ∧ frC g h := by
  have wP := hA.2.2.1 p hp
  have wQ := hA.2.2.1 q hq
  have np := hA.2.1
  have n2 := dN25 wQ
  obtain ⟨h1, h2, h3, e1, e2, e3, S3, C3, f3⟩ := c_two (n := n) hS hA hp hq (dx := (x : Int) - 2) (dy := (y : Int) - 2) ⟨by omega, by omega⟩ ⟨by omega, by omega⟩
  have b := bsF_in wP wQ (y * 5 + x)
  have bs := bsS_9 (b := (bsF (aPic A p) (aPic A q) (y * 5 + x)).1) (w := w) ⟨by omega, by omega⟩
  have si := stS_in wP wQ (dx := (x : Int) - 2) (dy := (y : Int) - 2) (dN (aPic A q)) (Nat.le_refl _)
  have m1 : (y * 5 + x) % 5 = x := by omega
  have m2 : (y * 5 + x) / 5 = y := by omega
  have eb : bsF (aPic A p) (aPic A q) (y * 5 + x + 1) = if 2 ≤ (stS (aPic A p) (aPic A q) ((x : Int) - 2) ((y : Int) - 2) (dN (aPic A q))).1 ∧ ((bsF (aPic A p) (aPic A q) (y * 5 + x)).1 = -1 ∨ (stS (aPic A p) (aPic A q) ((x : Int) - 2) ((y : Int) - 2) (dN (aPic A q))).2.2.2 - (stS (aPic A p) (aPic A q) ((x : Int) - 2) ((y : Int) - 2) (dN (aPic A q))).2.2.1 < (bsF (aPic A p) (aPic A q) (y * 5 + x)).2.1 ∨ ((stS (aPic A p) (aPic A q) ((x : Int) - 2) ((y : Int) - 2) (dN (aPic A q))).2.2.2 - (stS (aPic A p) (aPic A q) ((x : Int) - 2) ((y : Int) - 2) (dN (aPic A q))).2.2.1 = (bsF (aPic A p) (aPic A q) (y * 5 + x)).2.1 ∧ (bsF (aPic A p) (aPic A q) (y * 5 + x)).2.2 < (stS (aPic A p) (aPic A q) ((x : Int) - 2) ((y : Int) - 2) (dN (aPic A q))).1)) then (((y * 5 + x : Nat) : Int), (stS (aPic A p) (aPic A q) ((x : Int) - 2) ((y : Int) - 2) (dN (aPic A q))).2.2.2 - (stS (aPic A p) (aPic A q) ((x : Int) - 2) ((y : Int) - 2) (dN (aPic A q))).2.2.1, (stS (aPic A p) (aPic A q) ((x : Int) - 2) ((y : Int) - 2) (dN (aPic A q))).1) else bsF (aPic A p) (aPic A q) (y * 5 + x) := by
    have : bsF (aPic A p) (aPic A q) (y * 5 + x + 1) = if 2 ≤ (stS (aPic A p) (aPic A q) ((((y * 5 + x) % 5 : Nat) : Int) - 2) ((((y * 5 + x) / 5 : Nat) : Int) - 2) (dN (aPic A q))).1 ∧ ((bsF (aPic A p) (aPic A q) (y * 5 + x)).1 = -1 ∨ (stS (aPic A p) (aPic A q) ((((y * 5 + x) % 5 : Nat) : Int) - 2) ((((y * 5 + x) / 5 : Nat) : Int) - 2) (dN (aPic A q))).2.2.2 - (stS (aPic A p) (aPic A q) ((((y * 5 + x) % 5 : Nat) : Int) - 2) ((((y * 5 + x) / 5 : Nat) : Int) - 2) (dN (aPic A q))).2.2.1 < (bsF (aPic A p) (aPic A q) (y * 5 + x)).2.1 ∨ ((stS (aPic A p) (aPic A q) ((((y * 5 + x) % 5 : Nat) : Int) - 2) ((((y * 5 + x) / 5 : Nat) : Int) - 2) (dN (aPic A q))).2.2.2 - (stS (aPic A p) (aPic A q) ((((y * 5 + x) % 5 : Nat) : Int) - 2) ((((y * 5 + x) / 5 : Nat) : Int) - 2) (dN (aPic A q))).2.2.1 = (bsF (aPic A p) (aPic A q) (y * 5 + x)).2.1 ∧ (bsF (aPic A p) (aPic A q) (y * 5 + x)).2.2 < (stS (aPic A p) (aPic A q) ((((y * 5 + x) % 5 : Nat) : Int) - 2) ((((y * 5 + x) / 5 : Nat) : Int) - 2) (dN (aPic A q))).1)) then (((y * 5 + x : Nat) : Int), (stS (aPic A p) (aPic A q) ((((y * 5 + x) % 5 : Nat) : Int) - 2) ((((y * 5 + x) / 5 : Nat) : Int) - 2) (dN (aPic A q))).2.2.2 - (stS (aPic A p) (aPic A q) ((((y * 5 + x) % 5 : Nat) : Int) - 2) ((((y * 5 + x) / 5 : Nat) : Int) - 2) (dN (aPic A q))).2.2.1, (stS (aPic A p) (aPic A q) ((((y * 5 + x) % 5 : Nat) : Int) - 2) ((((y * 5 + x) / 5 : Nat) : Int) - 2) (dN (aPic A q))).1) else bsF (aPic A p) (aPic A q) (y * 5 + x) := rfl
    rw [m1, m2] at this
    exact this
  refine ⟨h3, ?_, S3, f3⟩
  have ca := c_apt (n := n) C3 ⟨by omega, by omega⟩
  have c0 := C3.1
  rw [b132_23, zw_id (z := (x : Int) - 2) (by omega) (by omega), if_neg (by omega), b132_30 (LX0_p (by omega)) e1, b132_33 (LX0_p (by omega)) (LX0_p (by omega)) e2, b132_36 (LX0_p (by omega)) (LX0_p (by omega)) e3, b132_39 ca, c0]
  generalize hs : stS (aPic A p) (aPic A q) ((x : Int) - 2) ((y : Int) - 2) (dN (aPic A q)) = s at *
  generalize hb : bsF (aPic A p) (aPic A q) (y * 5 + x) = u at *
  generalize hap : s.2.2.2 - s.2.2.1 = ap at *
  have nx : ((x : Int) - 2 + 1) = (((x + 1 : Nat) : Int) - 2) := by omega
  have yes : ∀ a : Int, Zx 132 60 [zR 1, zI (p : Int), zI (q : Int), zI w, zN, zN, zN, zI ((y : Int) - 2), zI ((x : Int) - 2), zI a, zI s.1] [] (Z0 n) h3 = Zx 132 23 [zR 1, zI (p : Int), zI (q : Int), zI w, zI (bsS ((y * 5 + x : Nat) : Int) w), zI a, zI s.1, zI ((y : Int) - 2), zI (((x + 1 : Nat) : Int) - 2), zN, zN] [] (Z0 n) h3 := fun a => by
    unfold bsS
    rw [if_neg (show ¬ ((y * 5 + x : Nat) : Int) = -1 by omega), show Int.tdiv ((y * 5 + x : Nat) : Int) 5 = (((y * 5 + x) / 5 : Nat) : Int) from (Int.ofNat_tdiv _ 5).symm, show Int.tmod ((y * 5 + x : Nat) : Int) 5 = (((y * 5 + x) % 5 : Nat) : Int) from (Int.ofNat_tmod _ 5).symm, m1, m2, b132_60, hw.e]
    by_cases c : w = 0
    · rw [if_pos c, if_pos c, b132_65, b132_70, nx]
    · rw [if_neg c, if_neg c, b132_65, b132_70, nx]
  have no : Zx 132 70 [zR 1, zI (p : Int), zI (q : Int), zI w, zI (bsS u.1 w), zI u.2.1, zI u.2.2, zI ((y : Int) - 2), zI ((x : Int) - 2), zN, zN] [] (Z0 n) h3 = Zx 132 23 [zR 1, zI (p : Int), zI (q : Int), zI w, zI (bsS u.1 w), zI u.2.1, zI u.2.2, zI ((y : Int) - 2), zI (((x + 1 : Nat) : Int) - 2), zN, zN] [] (Z0 n) h3 := by
    rw [b132_70, nx]
  rw [zw_id (z := s.1) (by omega) (by omega)]
  by_cases a1 : s.1 < 2
  · rw [if_pos a1, no, eb, if_neg (by omega)]
  rw [if_neg a1, if_neg (show ¬ s.1 = 0 by omega), zw_id (z := bsS u.1 w) (by omega) (by omega), zw_id (z := ap) (by omega) (by omega), zw_id (z := u.2.1) (by omega) (by omega), zw_id (z := u.2.2) (by omega) (by omega)]
  by_cases a2 : u.1 = -1
  · rw [if_pos (bs.1.mpr a2), eb, if_pos ⟨by omega, Or.inl a2⟩, yes]
  rw [if_neg (fun z => a2 (bs.1.mp z))]
  by_cases a3 : ap < u.2.1
  · rw [if_pos a3, eb, if_pos ⟨by omega, Or.inr (Or.inl a3)⟩, yes]
  rw [if_neg a3]
  by_cases a4 : ap = u.2.1
  case neg =>
    rw [if_pos a4, no, eb, if_neg (by omega)]
  rw [if_neg (fun z => z a4)]
  by_cases a5 : s.1 ≤ u.2.2
  · rw [if_pos a5, no, eb, if_neg (by omega)]
  · rw [if_neg a5, eb, if_pos ⟨by omega, Or.inr (Or.inr ⟨a4, by omega⟩)⟩, yes]
/-- best -/
theorem op_best (hA : wfA A) {p q w : Int} (hp : zint p) (hq : zint q) (hw : zint w) : OpI n 132 211 [zR 1, zI p, zI q, zI w, zN, zN, zN, zN, zN, zN, zN] [zR 202, zI p, zI q, zI w, zN, zN, zN, zN, zN] A := by
  have np := hA.2.1
  have z1 : ¬ zw 1 = 0 := by decide
  by_cases cp : 0 ≤ p ∧ p < aNp A
  case neg =>
    refine ⟨-9, fun h hS => ⟨h, ?_, hS, frC.rf⟩, fun g hM => ⟨zu g 202 0 0, ?_, frM0⟩⟩
    · rw [b132_0, b132_2 (c_isp0 hS hA hp cp), if_pos zw0, b132_8]
    · rw [b211_0, b211_5 (m_isp0 (McT0 hM) hA hp cp), if_pos zw0, b211_11]
  obtain ⟨p, rfl, hp'⟩ := nat_of cp
  by_cases cq : 0 ≤ q ∧ q < aNp A
  case neg =>
    refine ⟨-9, fun h hS => ⟨h, ?_, hS, frC.rf⟩, fun g hM => ⟨zu g 202 0 0, ?_, frM0⟩⟩
    · rw [b132_0, b132_2 (c_isp1 hS hA hp'), if_neg z1, b132_6 (c_isp0 hS hA hq cq), if_neg (fun z => z zw0), b132_8]
    · rw [b211_0, b211_5 (m_isp1 (McT0 hM) hA hp'), if_neg z1, b211_9 (m_isp0 (McT0 hM) hA hq cq), if_neg (fun z => z zw0), b211_11]
  obtain ⟨q, rfl, hq'⟩ := nat_of cq
  have wP := hA.2.2.1 p hp'
  have wQ := hA.2.2.1 q hq'
  have b := bsF_in wP wQ 25
  refine ⟨bsS (bsF (aPic A p) (aPic A q) 25).1 w, fun h hS => ?_, fun g hM => ?_⟩
  · obtain ⟨h1, e1, S1, f1⟩ := z_inv (N := 5) (X := fun y (u : zH) => Zx 132 18 [zR 1, zI (p : Int), zI (q : Int), zI w, zI (bsS (bsF (aPic A p) (aPic A q) (y * 5)).1 w), zI (bsF (aPic A p) (aPic A q) (y * 5)).2.1, zI (bsF (aPic A p) (aPic A q) (y * 5)).2.2, zI ((y : Int) - 2), zN, zN, zN] [] (Z0 n) u) (I := fun _ u => ClS u A ∧ frC u h) (s := h) ⟨hS, frC.rf⟩ (fun y u hy Iu => by
      obtain ⟨u', e, S', f'⟩ := z_inv (N := 5) (X := fun x (u : zH) => Zx 132 23 [zR 1, zI (p : Int), zI (q : Int), zI w, zI (bsS (bsF (aPic A p) (aPic A q) (y * 5 + x)).1 w), zI (bsF (aPic A p) (aPic A q) (y * 5 + x)).2.1, zI (bsF (aPic A p) (aPic A q) (y * 5 + x)).2.2, zI ((y : Int) - 2), zI ((x : Int) - 2), zN, zN] [] (Z0 n) u) (I := fun _ u => ClS u A ∧ frC u h) (s := u) Iu (fun x u hx Iu => by
        obtain ⟨u', e, S', f'⟩ := c_bstp (n := n) (w := w) Iu.1 hA hp' hq' hw hy hx (o1 := 0) (o2 := 0)
        exact ⟨u', e, S', f'.tr Iu.2⟩)
      refine ⟨u', ?_, S', f'⟩
      show Zx 132 18 _ _ _ _ = Zx 132 18 [zR 1, zI (p : Int), zI (q : Int), zI w, zI (bsS (bsF (aPic A p) (aPic A q) ((y + 1) * 5)).1 w), zI (bsF (aPic A p) (aPic A q) ((y + 1) * 5)).2.1, zI (bsF (aPic A p) (aPic A q) ((y + 1) * 5)).2.2, zI (((y + 1 : Nat) : Int) - 2), zN, zN, zN] [] (Z0 n) u'
      rw [b132_18, zw_id (z := (y : Int) - 2) (by omega) (by omega), if_neg (by omega)]
      refine e.trans ?_
      show Zx 132 23 [zR 1, zI (p : Int), zI (q : Int), zI w, zI (bsS (bsF (aPic A p) (aPic A q) (y * 5 + 5)).1 w), zI (bsF (aPic A p) (aPic A q) (y * 5 + 5)).2.1, zI (bsF (aPic A p) (aPic A q) (y * 5 + 5)).2.2, zI ((y : Int) - 2), zI (((5 : Nat) : Int) - 2), zN, zN] [] (Z0 n) u' = _
      rw [b132_23, zw_id (z := ((5 : Nat) : Int) - 2) (by omega) (by omega), if_pos (by omega), show (y + 1) * 5 = y * 5 + 5 by omega, show (((y + 1 : Nat) : Int) - 2) = (y : Int) - 2 + 1 by omega])
    refine ⟨h1, ?_, S1, f1⟩
    rw [b132_0, b132_2 (c_isp1 hS hA hp'), if_neg z1, b132_6 (c_isp1 hS hA hq'), if_pos z1]
    refine e1.trans ?_
    show Zx 132 18 _ _ _ _ = _
    rw [b132_18, zw_id (z := ((5 : Nat) : Int) - 2) (by omega) (by omega), if_pos (by omega)]
  · obtain ⟨h1, h2, e1, e2, R2, A2, f2⟩ := m_two (n := n) (McT0 (v := 0) (k := 0) hM) hA hp' hq'
    obtain ⟨h3, e3, f3⟩ := z_inv (N := 25) (X := fun c (u : zH) => Zx 211 33 [zR 202, zN, zN, zI w, zN, zI (bsF (aPic A p) (aPic A q) c).1, zI (bsF (aPic A p) (aPic A q) c).2.1, zI (bsF (aPic A p) (aPic A q) c).2.2, zI (c : Int)] [] (Z0 n) u) (I := fun _ u => ∀ x k, ¬ (x = 202 ∧ 54 ≤ k ∧ k ≤ 56) → u x k = h2 x k) (s := h2) (fun x k _ => rfl) (fun c u hc Iu => by
      obtain ⟨u', e, f'⟩ := m_bstp (n := n) (w := w) wP wQ (R2.cg5 Iu) (A2.cg wQ (fun x k a => Iu x k (by omega))) hc
      exact ⟨u', e, fun x k a => (f' x k a).trans (Iu x k a)⟩)
    refine ⟨h3, ?_, fun x k a => (f3 x k (by omega)).trans ((f2 x k a).trans (frM0 x k a))⟩
    rw [b211_0, b211_5 (m_isp1 (McT0 hM) hA hp'), if_neg z1, b211_9 (m_isp1 (McT0 hM) hA hq'), if_pos z1, b211_15 e1, if_neg z1, b211_19 e2, if_neg z1, b211_24]
    refine e3.trans ?_
    show Zx 211 33 _ _ _ _ = _
    rw [b211_33, if_pos (show (25 : Int) ≤ zw ((25 : Nat) : Int) by decide), zw_id (z := (bsF (aPic A p) (aPic A q) 25).1) (by omega) (by omega), hw.e]
    unfold bsS
    by_cases c : (bsF (aPic A p) (aPic A q) 25).1 = -1
    · rw [if_neg (fun z => z c), if_pos c, b211_95]
    · rw [if_pos c, if_neg c]
      by_cases d : w = 0
      · rw [if_pos d, if_pos d, b211_95]
      · rw [if_neg d, if_neg d, b211_95]
end OPU
