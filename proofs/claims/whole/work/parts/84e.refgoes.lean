/-! THE REFERENCE: fill, goes -/
theorem rI_cg {n s t : Nat} {K r r' : Nat → Nat → Int} (I : rI n s t K r) (e : ∀ a b, a < n → b < n → r' a b = r a b) : rI n s t K r' ∧ ∀ v, v < n → ex n K r' v = ex n K r v := by
  have ee : ∀ v, v < n → ex n K r' v = ex n K r v := fun v hv => su_congr (fun b hb => by
    show K v b - r' v b = K v b - r v b
    rw [e v b hv hb])
  refine ⟨⟨fun a b ha hb => by rw [e a b ha hb]; exact I.1 a b ha hb, fun a b ha hb => by rw [e a b ha hb, e b a hb ha]; exact I.2.1 a b ha hb, fun v hv h1 h2 => by rw [ee v hv]; exact I.2.2 v hv h1 h2⟩, ee⟩
section FIL
variable {n : Nat}
def muS (r : Nat → Nat → Int) (fm : Nat → Nat) : Nat → Int
  | 0 => 1000000
  | i + 1 => if r (fpt fm 26 (i + 1)) (fpt fm 26 i) ≤ muS r fm i then r (fpt fm 26 (i + 1)) (fpt fm 26 i) else muS r fm i
theorem muS_ok {r : Nat → Nat → Int} {fm : Nat → Nat} : ∀ i, (∀ k, k < i → 0 < r (fpt fm 26 (k + 1)) (fpt fm 26 k)) → (0 < muS r fm i ∧ muS r fm i ≤ 1000000) ∧ ∀ k, k < i → muS r fm i ≤ r (fpt fm 26 (k + 1)) (fpt fm 26 k)
  | 0, _ => ⟨⟨by show (0 : Int) < 1000000; omega, Int.le_refl _⟩, fun k hk => absurd hk (Nat.not_lt_zero k)⟩
  | i + 1, h => by
    obtain ⟨⟨a, b⟩, c⟩ := muS_ok i (fun k hk => h k (by omega))
    have d := h i (by omega)
    unfold muS
    by_cases q : r (fpt fm 26 (i + 1)) (fpt fm 26 i) ≤ muS r fm i
    · rw [if_pos q]
      refine ⟨⟨d, by omega⟩, fun k hk => ?_⟩
      by_cases z : k = i
      · rw [z]; exact Int.le_refl _
      · have := c k (by omega); omega
    · rw [if_neg q]
      refine ⟨⟨a, b⟩, fun k hk => ?_⟩
      by_cases z : k = i
      · rw [z]; omega
      · exact c k (by omega)
theorem m_pst {g : zH} {u v : Nat} {y : Int} (hu : u < 27) (hv : v < 25 ∨ v = 26) (huv : u ≠ v) (e : g 225 v = (u : Int)) : ∃ g' : zH, Zx 179 37 [zR 202, zI y, zI (v : Int)] [] (Z0 n) g = Zx 179 37 [zR 202, zI y, zI (u : Int)] [] (Z0 n) g' ∧ (∀ a b, a < 27 → b < 27 → rm g' a b = mv (rm g) u v y a b) ∧ ∀ x k, x ≠ 224 → g' x k = g x k := by
  have ev : g 225 ((v : Int)).toNat = (u : Int) := e
  have i1 : ((27 : Int) * (u : Int) + (v : Int)).toNat = 27 * u + v := by omega
  have i2 : ((27 : Int) * (v : Int) + (u : Int)).toNat = 27 * v + u := by omega
  have k1 : zu g 224 (27 * u + v) (g 224 (27 * u + v) - y) 225 v = (u : Int) := by rw [zu_off (by omega)]; exact e
  have k1' : zu g 224 (27 * u + v) (g 224 (27 * u + v) - y) 225 ((v : Int)).toNat = (u : Int) := k1
  have st := b179_37 (n := n) (h := g) (l1 := y) (l2 := (v : Int)) (by intros; omega) (by intros; omega) (by rw [ev]; intros; omega) (by rw [ev]; intros; omega) (by rw [ev]; intros; omega) (by rw [ev]; intros; omega) (by intros; omega) (by intros; omega) (by rw [ev, i1, k1']; intros; omega) (by rw [ev, i1, k1']; intros; omega) (by rw [ev, i1, k1']; intros; omega) (by rw [ev, i1, k1']; intros; omega) (by intros; omega) (by intros; omega)
  rw [zw_nat (by omega), if_neg (by omega), ev, i1, k1', i2, zu_off (x := 224) (y := 225) (by omega), k1'] at st
  refine ⟨_, st, fun a b ha hb => ?_, fun x k q => by rw [zu_off (by omega), zu_off (by omega)]⟩
  unfold mv rm
  by_cases c1 : a = v ∧ b = u
  · obtain ⟨rfl, rfl⟩ := c1
    rw [zu_eq, if_pos ⟨rfl, rfl⟩, zu_off (by omega)]
  · rw [zu_off (by omega), if_neg c1]
    by_cases c2 : a = u ∧ b = v
    · obtain ⟨rfl, rfl⟩ := c2
      rw [zu_eq, if_pos ⟨rfl, rfl⟩]
    · rw [zu_off (by omega), if_neg c2]
theorem fil_all {K : Nat → Nat → Int} (hK : ∀ a b, a < 27 → b < 27 → 0 ≤ K a b ∧ K a b ≤ 1002000) : ∀ (m : Nat) (g : zH) (V : Nat → Bool) (fm rk : Nat → Nat), (cutc 27 K (fun v => decide (v = 25)) - ex 27 K (rm g) 25).toNat ≤ m → rI 27 25 26 K (rm g) → flF 27 25 (rm g) V fm rk → (∀ v, v < 27 → g 225 v = if V v = true then (fm v : Int) else -1) → (∀ v, v < 27 → V v = true → fm v < 27) → ∃ (g' : zH) (V' : Nat → Bool) (fm' rk' : Nat → Nat), Zx 179 2 [zR 202, zN, zN] [] (Z0 n) g = some (none, Z0 n, g') ∧ rI 27 25 26 K (rm g') ∧ flF 27 25 (rm g') V' fm' rk' ∧ (∀ v, v < 27 → g' 225 v = if V' v = true then (fm' v : Int) else -1) ∧ V' 26 = false ∧ (∀ v, v < 27 → V' v = true → fm' v < 27) ∧ ∀ x k, x ≠ 224 → x ≠ 225 → x ≠ 226 → g' x k = g x k
  | m, g, V, fm, rk, hm, I, F, e225, hfm => by
    have st := b179_2 (n := n) (h := g)
    rw [e225 26 (by omega)] at st
    cases v26 : V 26
    · rw [v26, if_neg (show ¬ false = true by decide), zwm1, if_pos rfl] at st
      exact ⟨g, V, fm, rk, st, I, F, e225, v26, hfm, fun x k _ _ _ => rfl⟩
    have f26 := hfm 26 (by omega) v26
    rw [v26, if_pos rfl, zw_nat (by omega), if_neg (by omega)] at st
    obtain ⟨p, p1, p2, p3, p4, p5, p6⟩ := F.way (t := 26) (by omega) v26
    have vp : ∀ i, i ≤ p → V (fpt fm 26 i) = true := by
      intro i
      induction i with
      | zero => intro _; exact v26
      | succ i ih =>
        intro hi
        exact (F.2.2 _ (p4 i (by omega)) (ih (by omega)) (p3 i (by omega))).2.1
    have ef : ∀ i, i < p → g 225 (fpt fm 26 i) = (fpt fm 26 (i + 1) : Int) := fun i hi => by
      rw [e225 _ (p4 i (by omega)), vp i (by omega), if_pos rfl]
      rfl
    obtain ⟨⟨mu1, mu2⟩, mu3⟩ := muS_ok (r := rm g) (fm := fm) p p6
    have e1 := z_chain (N := p) (X := fun i => Zx 179 12 [zR 202, zI (muS (rm g) fm i), zI (fpt fm 26 i : Int)] [] (Z0 n) g) (fun i hi => by
      have mi := (muS_ok (r := rm g) (fm := fm) i (fun k hk => p6 k (by omega))).1
      have l1 := p4 i (by omega)
      have l2 := p4 (i + 1) (by omega)
      have r0 := p6 i hi
      have rb := I.2.1 _ _ l2 l1
      have rn := I.1 _ _ l1 l2
      have k1 := hK _ _ l2 l1
      have k2 := hK _ _ l1 l2
      have ee : g 225 ((fpt fm 26 i : Int)).toNat = (fpt fm 26 (i + 1) : Int) := ef i hi
      show Zx 179 12 _ _ _ _ = Zx 179 12 _ _ _ _
      rw [b179_12 (by intros; omega) (by intros; omega) (by rw [ee]; intros; omega) (by rw [ee]; intros; omega), zw_nat (by omega), if_neg (by have := p3 i hi; omega), ee, show ((27 : Int) * (fpt fm 26 (i + 1) : Int) + (fpt fm 26 i : Int)).toNat = 27 * fpt fm 26 (i + 1) + fpt fm 26 i by omega, b179_27 s_lesser (by intros; omega) (by intros; omega), ee]
      have er : g 224 (27 * fpt fm 26 (i + 1) + fpt fm 26 i) = rm g (fpt fm 26 (i + 1)) (fpt fm 26 i) := rfl
      rw [er, zw_id (z := rm g (fpt fm 26 (i + 1)) (fpt fm 26 i)) (by omega) (by omega), zw_id (z := muS (rm g) fm i) (by omega) (by omega)]
      rfl)
    have e2 : Zx 179 12 [zR 202, zI (muS (rm g) fm p), zI (fpt fm 26 p : Int)] [] (Z0 n) g = Zx 179 37 [zR 202, zI (muS (rm g) fm p), zI 26] [] (Z0 n) g := by
      rw [p2, b179_12 (fun q => absurd (by decide) q) (fun q => absurd (by decide) q) (fun q => absurd (by decide) q) (fun q => absurd (by decide) q), if_pos (by decide)]
    obtain ⟨u, e3, j1, j2⟩ := z_inv (N := p) (X := fun i (u : zH) => Zx 179 37 [zR 202, zI (muS (rm g) fm p), zI (fpt fm 26 i : Int)] [] (Z0 n) u) (I := fun i u => (∀ a b, a < 27 → b < 27 → rm u a b = fmw fm 26 (muS (rm g) fm p) (rm g) i a b) ∧ ∀ x k, x ≠ 224 → u x k = g x k) (s := g) ⟨fun a b _ _ => rfl, fun x k _ => rfl⟩ (fun i u hi Iu => by
      obtain ⟨j1, j2⟩ := Iu
      have l1 := p4 i (by omega)
      have l2 := p4 (i + 1) (by omega)
      have ne25 := p3 i hi
      obtain ⟨u', e, k1, k2⟩ := m_pst (n := n) (g := u) (u := fpt fm 26 (i + 1)) (v := fpt fm 26 i) (y := muS (rm g) fm p) l2 (by omega) (fun z => by
        have := p5 i (i + 1) (by omega) (by omega)
        rw [z] at this
        omega) (by rw [j2 _ _ (by omega)]; exact ef i hi)
      refine ⟨u', e, fun a b ha hb => ?_, fun x k q => by rw [k2 x k q]; exact j2 x k q⟩
      rw [k1 a b ha hb]
      show mv (rm u) _ _ _ a b = mv (fmw fm 26 (muS (rm g) fm p) (rm g) i) _ _ _ a b
      unfold mv
      rw [j1 a b ha hb])
    obtain ⟨ok1, ok2⟩ := fmw_ok (t := 26) (y := muS (rm g) fm p) I (by omega) p4 p2 p5 (by omega) mu3
    obtain ⟨Iu, exu⟩ := rI_cg ok1 j1
    have exu' : ex 27 K (rm u) 25 = ex 27 K (rm g) 25 + muS (rm g) fm p := by rw [exu 25 (by omega), ok2]
    have bd := cut_ge (n := 27) (R := fun v => decide (v = 25)) (by omega) Iu (decide_eq_true rfl) (decide_eq_false (by omega))
    obtain ⟨g2, V2, fm2, rk2, f1, f2, f3, f4, f5⟩ := m_flo (n := n) (h := u) (fun a b ha hb => by
      have a1 := Iu.1 a b ha hb
      have a2 := Iu.1 b a hb ha
      have a3 := Iu.2.1 a b ha hb
      have a4 := hK a b ha hb
      have a5 := hK b a hb ha
      exact ⟨by omega, by omega⟩)
    have rg : rm g2 = rm u := by
      funext a b
      unfold rm
      exact f5 _ _ (by omega) (by omega)
    cases m with
    | zero => omega
    | succ m =>
      obtain ⟨g', V', fm', rk', r1, r2, r3, r4, r5, r6, r7⟩ := fil_all hK m g2 V2 fm2 rk2 (by rw [rg]; omega) (by rw [rg]; exact Iu) (by rw [rg]; exact f2) f3 f4
      refine ⟨g', V', fm', rk', ?_, r2, r3, r4, r5, r6, fun x k q1 q2 q3 => by rw [r7 x k q1 q2 q3, f5 x k q2 q3, j2 x k q1]⟩
      rw [st]
      refine e1.trans (e2.trans (e3.trans ?_))
      show Zx 179 37 [zR 202, zI (muS (rm g) fm p), zI (fpt fm 26 p : Int)] [] (Z0 n) u = _
      rw [p2, b179_37 (fun q => absurd (by decide) q) (fun q => absurd (by decide) q) (fun q => absurd (by decide) q) (fun q => absurd (by decide) q) (fun q => absurd (by decide) q) (fun q => absurd (by decide) q) (fun q => absurd (by decide) q) (fun q => absurd (by decide) q) (fun q => absurd (by decide) q) (fun q => absurd (by decide) q) (fun q => absurd (by decide) q) (fun q => absurd (by decide) q) (fun q => absurd (by decide) q) (fun q => absurd (by decide) q), if_pos (by decide), b179_77 f1]
      exact r1
/-- FringeBenchModel.fill -/
theorem m_fil {h : zH} (hK : ∀ a b, a < 27 → b < 27 → 0 ≤ rm h a b ∧ rm h a b ≤ 1002000) : ∃ (g : zH) (V : Nat → Bool) (r : Nat → Nat → Int) (fm rk : Nat → Nat), Zx 179 0 [zR 202, zN, zN] [] (Z0 n) h = some (none, Z0 n, g) ∧ rI 27 25 26 (rm h) r ∧ flF 27 25 r V fm rk ∧ V 26 = false ∧ (∀ v, v < 27 → (zw (g 225 v) = -1 ↔ V v = false)) ∧ ∀ x k, x ≠ 224 → x ≠ 225 → x ≠ 226 → g x k = h x k := by
  obtain ⟨g2, V2, fm2, rk2, f1, f2, f3, f4, f5⟩ := m_flo (n := n) (h := h) (fun a b ha hb => by
    have a4 := hK a b ha hb
    exact ⟨by omega, by omega⟩)
  have rg : rm g2 = rm h := by
    funext a b
    unfold rm
    exact f5 _ _ (by omega) (by omega)
  have I0 : rI 27 25 26 (rm h) (rm h) := ⟨fun a b ha hb => (hK a b ha hb).1, fun a b _ _ => rfl, fun v hv _ _ => by
    unfold ex
    have : su (fun b => rm h v b - rm h v b) 27 = su (fun _ => 0) 27 := su_congr (fun b _ => by (try dsimp only); omega)
    rw [this, su_zero]⟩
  obtain ⟨g', V', fm', rk', r1, r2, r3, r4, r5, r6, r7⟩ := fil_all (n := n) hK _ g2 V2 fm2 rk2 (Nat.le_refl _) (by rw [rg]; exact I0) (by rw [rg]; exact f2) f3 f4
  refine ⟨g', V', rm g', fm', rk', ?_, r2, r3, r5, fun v hv => ?_, fun x k q1 q2 q3 => by rw [r7 x k q1 q2 q3, f5 x k q2 q3]⟩
  · rw [b179_0, b179_1 f1]; exact r1
  · rw [r4 v hv]
    cases c : V' v
    · rw [if_neg (by decide)]; exact ⟨fun _ => rfl, fun _ => zwm1⟩
    · have := r6 v hv c
      rw [if_pos rfl, zw_nat (by omega)]
      exact ⟨fun z => by omega, fun z => by cases z⟩
end FIL
section GOE
variable {n : Nat} {h : zH} {W H N : Nat} {T : Nat → Bool} {F G : Nat → Int}
theorem tco_cg {x y : Nat → Int} (hw : wfS W H N T F G) (e : ∀ v, v < N → T v = true → x v = y v) : tco N W T F G x = tco N W T F G y := su_congr (fun j hj => by
  obtain ⟨a1, a2, a3, a4, a5⟩ := sc_at hw hj
  (try dsimp only)
  rw [e _ a2 a4, e _ (by omega) a3])
theorem stp_f {x : Nat → Int} {A : Nat → Bool} {y : Int} {v : Nat} (h : A v = false) : stp x A y v = x v := by
  unfold stp
  rw [h, if_neg (by decide)]
theorem stp_t {x : Nat → Int} {A : Nat → Bool} {y : Int} {v : Nat} (h : A v = true) : stp x A y v = x v + y := by
  unfold stp
  rw [h, if_pos rfl]
theorem stp_c {x : Nat → Int} {A B : Nat → Bool} {y : Int} {v : Nat} (h : A v = B v) : stp x A y v = stp x B y v := by
  unfold stp
  rw [h]
def cRt (A : Nat → Bool) (v : Nat) : Bool := decide (v = 25) || (decide (v ≠ 26) && !A v)
theorem cRt_v {A : Nat → Bool} {v : Nat} (h : v < 25) : cRt A v = !A v := by
  unfold cRt
  rw [decide_eq_false (show ¬ v = 25 by omega), decide_eq_true (show v ≠ 26 by omega)]
  rfl
/-- FringeBenchModel.goes -/
theorem m_goe {x : Nat → Int} {y : Int} (hR : RfC h W H N T F G) (hP : PaC h N W T) (hC : CpC h N W T F G) (hw : wfS W H N T F G) (hT : TuC h N T x 1100000) (hy : y = 1 ∨ y = -1) : ∃ (g : zH) (A : Nat → Bool) (w : Int), Zx 180 0 [zR 202, zI y, zN, zN] [] (Z0 n) h = some (some (zI w), Z0 n, g) ∧ ((w = 1 ∧ ∃ v, A v = true) ∨ (w = 0 ∧ ∀ v, A v = false)) ∧ stB N W T F G x y A ∧ (∀ k, k < N → T k = true → g 222 k = stp x A y k) ∧ ∀ x k, x ≠ 222 → x ≠ 224 → x ≠ 225 → x ≠ 226 → g x k = h x k := by
  have h25 := hw.2.2.2.1
  obtain ⟨g1, c0, e1, b1, c1, u1, n1, f1⟩ := m_lay (n := n) hR hP hC hw hT hy
  obtain ⟨g2, V, r, fm, rk, e2, I, FF, v26, e225, f2⟩ := m_fil (n := n) (h := g1) (fun a b ha hb => b1 a b ha hb)
  have fr2 : ∀ x k, x ≠ 224 → x ≠ 225 → x ≠ 226 → g2 x k = h x k := fun x k q1 q2 q3 => by rw [f2 x k q1 q2 q3, f1 x k q1]
  have cutA : ∀ R : Nat → Bool, R 25 = true → R 26 = false → (∀ v, isR N W T v → R v = true) → cutc 27 (rm g1) R = c0 + tco N W T F G (stp x (fun v => !R v) y) - tco N W T F G x := fun R r1 r2 rr => by
    rw [u1 R r1 r2]
    have : su (fun v => if rtb N W T v = true ∧ R v = false then (1000000 : Int) else 0) N = su (fun _ => 0) N := su_congr (fun v hv => by
      (try dsimp only)
      rw [if_neg]
      rintro ⟨z1, z2⟩
      rw [rr v ((rtb_iff hw hv).mp z1)] at z2
      cases z2)
    rw [this, su_zero]
    omega
  have full := cut_full (n := 27) (by omega) I FF.1 v26 (fun a b ha hb va vb => by
    have nn := I.1 a b ha hb
    by_cases c : r a b = 0
    · exact c
    · have := FF.2.1 a b ha hb va (by omega)
      rw [this] at vb; cases vb)
  have stpe : ∀ R : Nat → Bool, (∀ v, v < N → T v = true → (R v = (decide (v < N) && T v && !V v))) → tco N W T F G (stp x R y) = tco N W T F G (stp x (fun v => decide (v < N) && T v && !V v) y) := fun R q => tco_cg hw (fun v hv tv => stp_c (q v hv tv))
  have vroot : ∀ v, isR N W T v → V v = true := fun v hv => by
    cases c : V v
    · exfalso
      have t0 := u1 V FF.1 v26
      have t1 := n1 (fun v => !V v)
      have t2 := cut_ge (n := 27) (R := fun v => decide (v ≠ 26)) (by omega) I (by decide) (by decide)
      have t3 := cutA (fun v => decide (v ≠ 26)) (by decide) (by decide) (fun v hv => decide_eq_true (by have := hv.1; omega))
      have t4 : tco N W T F G (stp x (fun v => !decide (v ≠ 26)) y) = tco N W T F G x := tco_cg hw (fun v hv tv => stp_f (by
        show (!decide (v ≠ 26)) = false
        rw [decide_eq_true (show v ≠ 26 by omega)]
        rfl))
      have t5 := su_nonneg_le (f := fun v => if rtb N W T v = true ∧ V v = false then (1000000 : Int) else 0) (n := N) (a := v) (fun k _ => by (try dsimp only); split <;> omega) hv.1
      (try dsimp only at t5)
      rw [if_pos ⟨(rtb_iff hw hv.1).mpr hv, c⟩] at t5
      omega
    · rfl
  have cV := cutA V FF.1 v26 vroot
  have eA := stpe (fun v => !V v) (fun v hv tv => by (try dsimp only); rw [decide_eq_true hv, tv]; rfl)
  have cR : ∀ A' : Nat → Bool, (∀ v, isR N W T v → A' v = false) → cutc 27 (rm g1) (cRt A') = c0 + tco N W T F G (stp x A' y) - tco N W T F G x := fun A' hA => by
    rw [cutA (cRt A') rfl rfl (fun v hv => by
      have := hv.1
      rw [cRt_v (by omega), hA v hv]; rfl)]
    rw [tco_cg hw (x := stp x (fun v => !cRt A' v) y) (y := stp x A' y) (fun v hv tv => stp_c (by
      show (!cRt A' v) = A' v
      rw [cRt_v (by omega)]
      cases A' v <;> rfl))]
  have best : stB N W T F G x y (fun v => decide (v < N) && T v && !V v) := by
    refine ⟨fun v hv => ?_, fun v hv => ?_, fun A' hA => ?_, fun A' hA hle => ?_⟩
    · (try dsimp only)
      rw [vroot v hv]
      exact Bool.and_false _
    · rw [Bool.and_eq_true, Bool.and_eq_true, decide_eq_true_eq] at hv
      exact hv.1
    · have t := cut_ge (n := 27) (R := cRt A') (by omega) I rfl rfl
      rw [cR A' hA] at t
      omega
    · intro v hv tv av
      have t := flF.within FF (R := cRt A') rfl (cut_tight (n := 27) (by omega) I rfl rfl (by rw [cR A' hA]; omega)) v (by omega)
      (try dsimp only at t ⊢)
      rw [decide_eq_true hv, tv]
      cases c : V v
      · rfl
      · have := t c
        rw [cRt_v (by omega), av] at this
        cases this
  have start : Zx 180 0 [zR 202, zI y, zN, zN] [] (Z0 n) h = Zx 180 9 [zR 202, zI y, zI 0, zI 0] [] (Z0 n) g2 := by
    rw [b180_0, b180_2 e1, b180_4 e2]
  have hR2 : RfC g2 W H N T F G := hR.cg (fun x k q => fr2 x k (by omega) (by omega) (by omega))
  obtain ⟨⟨g3, w⟩, e3, i1, i2, i3⟩ := z_inv (N := N) (X := fun k (s : zH × Int) => Zx 180 9 [zR 202, zI y, zI s.2, zI (k : Int)] [] (Z0 n) s.1) (I := fun k s => ((s.2 = 1 ∧ ∃ v, (decide (v < N) && T v && !V v) = true) ∨ (s.2 = 0 ∧ ∀ v, v < k → (decide (v < N) && T v && !V v) = false)) ∧ (∀ v, v < N → T v = true → s.1 222 v = if v < k then stp x (fun v => decide (v < N) && T v && !V v) y v else x v) ∧ ∀ x k, x ≠ 222 → s.1 x k = g2 x k) (s := ((g2, 0) : zH × Int)) ⟨Or.inr ⟨rfl, fun v q => absurd q (Nat.not_lt_zero v)⟩, fun v hv tv => by
      rw [if_neg (Nat.not_lt_zero v)]
      (try dsimp only)
      rw [fr2 _ _ (by omega) (by omega) (by omega)]
      exact (hT v hv tv).1, fun x k _ => rfl⟩ (fun k s hk Is => by
    obtain ⟨g, w⟩ := s
    obtain ⟨i1, i2, i3⟩ := Is
    (try dsimp only at i1 i2 i3 ⊢)
    have hRg : RfC g W H N T F G := hR2.cg (fun x k q => i3 x k (by omega))
    have th := hRg.th hk
    have e25 : zw (g 225 k) = -1 ↔ V k = false := by rw [i3 _ _ (by omega)]; exact e225 k (by omega)
    have st := b180_9 (n := n) (h := g) (l1 := y) (l2 := w) (l3 := (k : Int)) (fun _ => by omega) (by intros; omega) (by intros; omega) (by intros; omega) (by intros; omega) (by intros; omega) (by intros; omega) (by intros; omega) (by intros; omega)
    rw [hRg.2.2.1, zw_nat (by omega), zw_nat (by omega), if_neg (by omega), Int.toNat_natCast] at st
    have no : (decide (k < N) && T k && !V k) = false → Zx 180 9 [zR 202, zI y, zI w, zI (k : Int)] [] (Z0 n) g = Zx 180 34 [zR 202, zI y, zI w, zI (k : Int)] [] (Z0 n) g → ∃ g' : zH × Int, Zx 180 9 [zR 202, zI y, zI w, zI (k : Int)] [] (Z0 n) g = Zx 180 9 [zR 202, zI y, zI g'.2, zI ((k + 1 : Nat) : Int)] [] (Z0 n) g'.1 ∧ ((g'.2 = 1 ∧ ∃ v, (decide (v < N) && T v && !V v) = true) ∨ (g'.2 = 0 ∧ ∀ v, v < k + 1 → (decide (v < N) && T v && !V v) = false)) ∧ (∀ v, v < N → T v = true → g'.1 222 v = if v < k + 1 then stp x (fun v => decide (v < N) && T v && !V v) y v else x v) ∧ ∀ x k, x ≠ 222 → g'.1 x k = g2 x k := fun q e => by
      rw [b180_34] at e
      refine ⟨(g, w), e, ?_, fun v hv tv => ?_, i3⟩
      · rcases i1 with i1 | ⟨j1, j2⟩
        · exact Or.inl i1
        · refine Or.inr ⟨j1, fun v hv => ?_⟩
          by_cases c : v = k
          · rw [c]; exact q
          · exact j2 v (by omega)
      · (try dsimp only)
        rw [i2 v hv tv]
        by_cases c : v < k
        · rw [if_pos c, if_pos (by omega)]
        · rw [if_neg c]
          by_cases d : v = k
          · subst d
            rw [if_pos (by omega), stp_f q]
          · rw [if_neg (by omega)]
    by_cases c1 : zw (zb1 (g 216 k)) = 0
    · rw [if_pos c1] at st
      exact no (by rw [th.mp c1, Bool.and_false]; rfl) st
    have tk : T k = true := by
      cases z : T k
      · exact absurd (th.mpr z) c1
      · rfl
    rw [if_neg c1] at st
    by_cases c2 : zw (g 225 k) = -1
    case neg =>
      rw [if_pos c2] at st
      refine no ?_ st
      cases c : V k
      · exact absurd (e25.mpr c) c2
      · exact Bool.and_false _
    have aK : (decide (k < N) && T k && !V k) = true := by rw [decide_eq_true hk, tk, e25.mp c2]; rfl
    rw [if_neg (fun z => z c2), b180_34, i2 k hk tk, if_neg (by omega)] at st
    refine ⟨(zu g 222 k (x k + y), 1), st, Or.inl ⟨rfl, k, aK⟩, fun v hv tv => ?_, fun x k q => by (try dsimp only); rw [zu_off (by omega)]; exact i3 x k q⟩
    (try dsimp only)
    by_cases d : v = k
    · subst d
      rw [zu_eq, if_pos (by omega), stp_t aK]
    · rw [zu_off (by omega), i2 v hv tv]
      by_cases c : v < k
      · rw [if_pos c, if_pos (by omega)]
      · rw [if_neg c, if_neg (by omega)])
  (try dsimp only at i1 i2 i3 e3)
  refine ⟨g3, fun v => decide (v < N) && T v && !V v, w, ?_, ?_, best, fun k hk tk => ?_, fun x k q1 q2 q3 q4 => by rw [i3 x k q1]; exact fr2 x k q2 q3 q4⟩
  · have e23 : g3 202 23 = N := (i3 _ _ (by omega)).trans hR2.2.2.1
    rw [start]
    refine e3.trans ?_
    show Zx 180 9 _ _ _ _ = _
    rw [b180_9 (fun _ => by omega) (by rw [e23]; intro q; exact absurd (Int.le_refl _) q) (by rw [e23]; intro q; exact absurd (Int.le_refl _) q) (by rw [e23]; intro q; exact absurd (Int.le_refl _) q) (by rw [e23]; intro q; exact absurd (Int.le_refl _) q) (by rw [e23]; intro q; exact absurd (Int.le_refl _) q) (by rw [e23]; intro q; exact absurd (Int.le_refl _) q) (by rw [e23]; intro q; exact absurd (Int.le_refl _) q) (by rw [e23]; intro q; exact absurd (Int.le_refl _) q), e23, if_pos (Int.le_refl _)]
  · rcases i1 with i1 | ⟨j1, j2⟩
    · exact Or.inl i1
    · refine Or.inr ⟨j1, fun v => ?_⟩
      by_cases c : v < N
      · exact j2 v c
      · (try dsimp only)
        rw [decide_eq_false c]; rfl
  · rw [i2 k hk tk, if_pos hk]
end GOE
