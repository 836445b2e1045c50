/-! THE REFERENCE: layNet -/
def rtb (N W : Nat) (T : Nat → Bool) (v : Nat) : Bool := T v && decide (fst (fun k => decide ((if T k = true then pP N W T k else -1) = (if T v = true then pP N W T v else -1))) N = (v : Int))
section LAY
variable {n : Nat} {h : zH} {W H N : Nat} {T : Nat → Bool} {F G : Nat → Int}
theorem rtb_iff (hw : wfS W H N T F G) {v : Nat} (hv : v < N) : rtb N W T v = true ↔ isR N W T v := by
  unfold rtb isR
  rw [Bool.and_eq_true, decide_eq_true_eq]
  constructor
  · rintro ⟨tv, e⟩
    refine ⟨hv, tv, fun k hk tk ek => ?_⟩
    rcases fst_cases (fun k => decide ((if T k = true then pP N W T k else -1) = (if T v = true then pP N W T v else -1))) N with ⟨a, -⟩ | ⟨i, i1, i2, i3, i4⟩
    · omega
    · have : i = v := by omega
      subst this
      by_cases c : k < i
      · have := i4 k c
        (try dsimp only at this)
        rw [if_pos tk, if_pos tv, decide_eq_true ek] at this
        cases this
      · omega
  · rintro ⟨-, tv, hm⟩
    refine ⟨tv, fst_some (by (try dsimp only); exact decide_eq_true rfl) (fun i hi => ?_) hv⟩
    (try dsimp only)
    refine decide_eq_false (fun z => ?_)
    rw [if_pos tv] at z
    by_cases ti : T i = true
    · rw [if_pos ti] at z
      have := hm i (by omega) ti z
      omega
    · rw [if_neg ti] at z
      have := (pP_in hw hv tv).1
      omega
/-- layNet, its first loop -/
theorem lay_0 {y : Int} : ∃ g : zH, Zx 177 0 [zR 202, zI y, zN, zN, zN, zN, zN] [] (Z0 n) h = Zx 177 14 [zR 202, zI y, zI 0, zN, zN, zN, zN] [] (Z0 n) g ∧ (∀ k, k < 729 → g 224 k = 0) ∧ ∀ x k, x ≠ 224 → g x k = h x k := by
  obtain ⟨g, e, i1, i2⟩ := z_inv (N := 729) (X := fun i (g : zH) => Zx 177 2 [zR 202, zI y, zI (i : Int), zN, zN, zN, zN] [] (Z0 n) g) (I := fun i g => (∀ k, k < i → g 224 k = 0) ∧ ∀ x k, x ≠ 224 → g x k = h x k) (s := h) ⟨fun k q => absurd q (Nat.not_lt_zero k), fun x k _ => rfl⟩ (fun i g hi Ig => by
    refine ⟨zu g 224 i 0, ?_, fun k hk => ?_, fun x k q => ?_⟩
    · show Zx 177 2 _ _ _ _ = Zx 177 2 _ _ _ _
      rw [b177_2 (by intros; omega) (by intros; omega), zw_nat (by omega), if_neg (by omega), Int.toNat_natCast]
      rfl
    · by_cases c : k = i
      · rw [c, zu_eq]
      · rw [zu_off (by omega)]; exact Ig.1 k (by omega)
    · rw [zu_off (by omega)]; exact Ig.2 x k q)
  refine ⟨g, ?_, i1, i2⟩
  rw [b177_0]
  refine e.trans ?_
  show Zx 177 2 _ _ _ _ = _
  rw [b177_2 (fun q => absurd (by decide) q) (fun q => absurd (by decide) q), if_pos (by decide)]
theorem cut_zero {R : Nat → Bool} {g : zH} (hz : ∀ k, k < 729 → g 224 k = 0) : cutc 27 (rm g) R = 0 := by
  unfold cutc
  have : su (fun a => su (fun b => if R a = true ∧ R b = false then rm g a b else 0) 27) 27 = su (fun _ => 0) 27 := su_congr (fun a ha => by
    have : su (fun b => if R a = true ∧ R b = false then rm g a b else 0) 27 = su (fun _ => 0) 27 := su_congr (fun b hb => by
      (try dsimp only)
      unfold rm
      rw [hz _ (by omega)]
      split <;> rfl)
    (try dsimp only)
    rw [this, su_zero])
  rw [this, su_zero]
/-- layNet, the first pixels -/
theorem lay_1 {y : Int} (hR : RfC h W H N T F G) (hP : PaC h N W T) (hw : wfS W H N T F G) (hz : ∀ k, k < 729 → h 224 k = 0) : ∃ g : zH, Zx 177 14 [zR 202, zI y, zI 0, zN, zN, zN, zN] [] (Z0 n) h = Zx 177 40 [zR 202, zI y, zI 0, zN, zN, zN, zN] [] (Z0 n) g ∧ (∀ a b, a < 27 → b < 27 → 0 ≤ rm g a b ∧ rm g a b ≤ 1000000) ∧ (∀ R : Nat → Bool, R 25 = true → R 26 = false → cutc 27 (rm g) R = su (fun v => if rtb N W T v = true ∧ R v = false then 1000000 else 0) N) ∧ ∀ x k, x ≠ 224 → g x k = h x k := by
  have h25 := hw.2.2.2.1
  obtain ⟨g, e, i1, i2, i3⟩ := z_inv (N := N) (X := fun i (g : zH) => Zx 177 14 [zR 202, zI y, zI (i : Int), zN, zN, zN, zN] [] (Z0 n) g) (I := fun i g => (∀ a b, a < 27 → b < 27 → 0 ≤ rm g a b ∧ rm g a b ≤ 1000000 ∧ (i ≤ b → rm g a b = 0)) ∧ (∀ R : Nat → Bool, R 25 = true → R 26 = false → cutc 27 (rm g) R = su (fun v => if rtb N W T v = true ∧ R v = false then 1000000 else 0) i) ∧ ∀ x k, x ≠ 224 → g x k = h x k) (s := h) ⟨fun a b ha hb => by
      have : rm h a b = 0 := hz _ (by omega)
      rw [this]; exact ⟨by omega, by omega, fun _ => rfl⟩, fun R _ _ => cut_zero hz, fun x k _ => rfl⟩ (fun i g hi Ig => by
    obtain ⟨i1, i2, i3⟩ := Ig
    have hRg : RfC g W H N T F G := hR.cg (fun x k q => i3 x k (by omega))
    have hPg : PaC g N W T := hP.cg (fun x k q => i3 x k (by omega))
    have st := b177_14 (n := n) (h := g) (l1 := y) (l2 := (i : Int)) (by intros; omega) (by intros; omega) (by intros; omega) (by intros; omega)
    rw [hRg.2.2.1, zw_nat (by omega), zw_nat (by omega), if_neg (by omega), Int.toNat_natCast] at st
    have no : rtb N W T i = false → Zx 177 14 [zR 202, zI y, zI (i : Int), zN, zN, zN, zN] [] (Z0 n) g = Zx 177 36 [zR 202, zI y, zI (i : Int), zN, zN, zN, zN] [] (Z0 n) g → ∃ g', Zx 177 14 [zR 202, zI y, zI (i : Int), zN, zN, zN, zN] [] (Z0 n) g = Zx 177 14 [zR 202, zI y, zI ((i + 1 : Nat) : Int), zN, zN, zN, zN] [] (Z0 n) g' ∧ (∀ a b, a < 27 → b < 27 → 0 ≤ rm g' a b ∧ rm g' a b ≤ 1000000 ∧ (i + 1 ≤ b → rm g' a b = 0)) ∧ (∀ R : Nat → Bool, R 25 = true → R 26 = false → cutc 27 (rm g') R = su (fun v => if rtb N W T v = true ∧ R v = false then 1000000 else 0) (i + 1)) ∧ ∀ x k, x ≠ 224 → g' x k = h x k := fun q e => by
      rw [b177_36] at e
      refine ⟨g, e, fun a b ha hb => ?_, fun R r1 r2 => ?_, i3⟩
      · have := i1 a b ha hb
        exact ⟨this.1, this.2.1, fun z => this.2.2 (by omega)⟩
      · rw [i2 R r1 r2, su, q, if_neg (fun z => by cases z.1), Int.add_zero]
    have th := hRg.th hi
    by_cases c : zw (zb1 (g 216 i)) = 0
    · rw [if_pos c] at st
      exact no (by unfold rtb; rw [th.mp c]; rfl) st
    have ti : T i = true := by
      cases z : T i
      · exact absurd (th.mpr z) c
      · rfl
    have pr := pP_in hw hi ti
    rw [if_neg c, hPg.2 i hi, if_pos ti, b177_28 (m_roo (n := n) (h := g) (p := pP N W T i) (q := fun k => if T k = true then pP N W T k else -1) hRg.2.2.1 h25 ⟨by omega, by omega⟩ (fun k hk => ⟨hPg.2 k hk, by
      (try dsimp only)
      by_cases tk : T k = true
      · rw [if_pos tk]
        have := pP_in hw hk tk
        exact ⟨by omega, by omega⟩
      · rw [if_neg tk]; exact ⟨by omega, by omega⟩⟩))] at st
    have fl := fst_lt (p := fun k => decide ((if T k = true then pP N W T k else -1) = pP N W T i)) (n := N)
    have fge : -1 ≤ fst (fun k => decide ((if T k = true then pP N W T k else -1) = pP N W T i)) N := by
      rcases fst_cases (fun k => decide ((if T k = true then pP N W T k else -1) = pP N W T i)) N with ⟨a, -⟩ | ⟨k, -, a, -⟩ <;> omega
    rw [zw_id (z := fst (fun k => decide ((if T k = true then pP N W T k else -1) = pP N W T i)) N) (by omega) (by omega), zw_nat (by omega)] at st
    by_cases d : fst (fun k => decide ((if T k = true then pP N W T k else -1) = pP N W T i)) N = (i : Int)
    · have rb : rtb N W T i = true := by
        unfold rtb
        rw [ti, Bool.true_and, if_pos rfl]
        exact decide_eq_true d
      rw [if_neg (fun z => z d), b177_35 (show Zx 175 0 [zR 202, zI 25, zI (i : Int), zI 1000000] [] (Z0 n) g = _ from m_add (a := 25) (b := i) (by omega) (by omega)), b177_36] at st
      refine ⟨_, st, fun a b ha hb => ?_, fun R r1 r2 => ?_, fun x k q => by rw [adr_off q]; exact i3 x k q⟩
      · have := i1 a b ha hb
        rw [adr_eq (by omega) hb]
        by_cases z : a = 25 ∧ b = i
        · rw [if_pos z]
          have z0 := this.2.2 (by omega)
          rw [z0]
          exact ⟨by omega, by omega, fun z2 => by omega⟩
        · rw [if_neg z, Int.add_zero]
          exact ⟨this.1, this.2.1, fun z2 => this.2.2 (by omega)⟩
      · rw [cut_adr (by omega) (by omega), i2 R r1 r2, su, rb, r1]
    · rw [if_pos d] at st
      refine no ?_ st
      unfold rtb
      rw [ti, Bool.true_and, if_pos rfl]
      exact decide_eq_false d)
  refine ⟨g, e.trans ?_, fun a b ha hb => ⟨(i1 a b ha hb).1, (i1 a b ha hb).2.1⟩, i2, i3⟩
  show Zx 177 14 _ _ _ _ = _
  have e23 : g 202 23 = N := (i3 _ _ (by omega)).trans hR.2.2.1
  rw [b177_14 (by rw [e23]; intro q; exact absurd (Int.le_refl _) q) (by rw [e23]; intro q; exact absurd (Int.le_refl _) q) (by rw [e23]; intro q; exact absurd (Int.le_refl _) q) (by rw [e23]; intro q; exact absurd (Int.le_refl _) q), e23, if_pos (Int.le_refl _)]
theorem jst_nn {x : Nat → Int} {y : Int} {A : Nat → Bool} {j : Nat} (hw : wfS W H N T F G) (hj : j < scJ N W T) (hy : y = 1 ∨ y = -1) : 0 ≤ ab (scu N W T G j * ab (lpx N W T F x j - y) - scu N W T G j * ab (lpx N W T F x j)) + scu N W T G j * ab (lpx N W T F (stp x A y) j) - scu N W T G j * ab (lpx N W T F x j) := by
  have s := ab_st (d := lpx N W T F x j) (y := y) (scu_in (G := G) hw hj) hy
  have e := ab_e (scu N W T G j * ab (lpx N W T F x j - y) - scu N W T G j * ab (lpx N W T F x j))
  rw [lpx_stp]
  cases A (scf N W T j) <;> cases A (sct N W T j)
  · simp only [if_true, if_false, reduceCtorEq, Int.add_zero, Int.sub_zero, Int.add_sub_cancel]
    omega
  · simp only [if_true, if_false, reduceCtorEq, Int.add_zero, Int.sub_zero, Int.add_sub_cancel]
    omega
  · simp only [if_true, if_false, reduceCtorEq, Int.add_zero, Int.sub_zero, Int.add_sub_cancel]
    omega
  · simp only [if_true, if_false, reduceCtorEq, Int.add_zero, Int.sub_zero, Int.add_sub_cancel]
    omega
/-- FringeBenchModel.layNet -/
theorem m_lay {x : Nat → Int} {y : Int} (hR : RfC h W H N T F G) (hP : PaC h N W T) (hC : CpC h N W T F G) (hw : wfS W H N T F G) (hT : TuC h N T x 1100000) (hy : y = 1 ∨ y = -1) : ∃ (g : zH) (c0 : Int), Zx 177 0 [zR 202, zI y, zN, zN, zN, zN, zN] [] (Z0 n) h = some (none, Z0 n, g) ∧ (∀ a b, a < 27 → b < 27 → 0 ≤ rm g a b ∧ rm g a b ≤ 1002000) ∧ (0 ≤ c0 ∧ c0 ≤ 360) ∧ (∀ R : Nat → Bool, R 25 = true → R 26 = false → cutc 27 (rm g) R = su (fun v => if rtb N W T v = true ∧ R v = false then 1000000 else 0) N + c0 + tco N W T F G (stp x (fun v => !R v) y) - tco N W T F G x) ∧ (∀ A : Nat → Bool, 0 ≤ c0 + tco N W T F G (stp x A y) - tco N W T F G x) ∧ ∀ x k, x ≠ 224 → g x k = h x k := by
  have j40 : scJ N W T ≤ 40 := jl_40 hw.1 hw.2.1 hw.2.2.1
  obtain ⟨g0, e0, z0, f0⟩ := lay_0 (n := n) (h := h) (y := y)
  obtain ⟨g1, e1, b1, c1, f1⟩ := lay_1 (n := n) (y := y) (hR.cg (fun x k q => f0 x k (by omega))) (hP.cg (fun x k q => f0 x k (by omega))) hw z0
  obtain ⟨g2, e2, i1, i2, i3⟩ := z_inv (N := scJ N W T) (X := fun j (g : zH) => Zx 177 40 [zR 202, zI y, zI (j : Int), zN, zN, zN, zN] [] (Z0 n) g) (I := fun j g => (∀ a b, a < 27 → b < 27 → 0 ≤ rm g a b ∧ rm g a b ≤ 1000000 + 36 * (j : Int)) ∧ (∀ R : Nat → Bool, R 25 = true → R 26 = false → cutc 27 (rm g) R = su (fun v => if rtb N W T v = true ∧ R v = false then 1000000 else 0) N + su (fun j => ab (scu N W T G j * ab (lpx N W T F x j - y) - scu N W T G j * ab (lpx N W T F x j)) + scu N W T G j * ab (lpx N W T F (stp x (fun v => !R v) y) j) - scu N W T G j * ab (lpx N W T F x j)) j) ∧ ∀ x k, x ≠ 224 → g x k = h x k) (s := g1) ⟨fun a b ha hb => by have := b1 a b ha hb; omega, fun R r1 r2 => by rw [c1 R r1 r2]; exact (Int.add_zero _).symm, fun x k q => by rw [f1 x k q, f0 x k q]⟩ (fun j g hj Ig => by
    obtain ⟨i1, i2, i3⟩ := Ig
    refine ⟨_, m_jst (hC.cg (fun x k q => i3 x k (by omega))) hw (hT.cg (fun k => i3 _ k (by omega))) hj hy, fun a b ha hb => ?_, fun R r1 r2 => ?_, fun x k q => by rw [jst_off q]; exact i3 x k q⟩
    · have := jst_bd (x := x) hw hj hy hb (i1 a b ha hb)
      omega
    · rw [jst_cut hw hj hy r1 r2, i2 R r1 r2, su]
      omega)
  refine ⟨g2, su (fun j => ab (scu N W T G j * ab (lpx N W T F x j - y) - scu N W T G j * ab (lpx N W T F x j))) (scJ N W T), ?_, fun a b ha hb => by have := i1 a b ha hb; omega, ⟨su_nonneg (fun j _ => ab_nn _), ?_⟩, fun R r1 r2 => ?_, fun A => ?_, i3⟩
  · rw [e0, e1]
    refine e2.trans ?_
    show Zx 177 40 _ _ _ _ = _
    have e33 : g2 202 33 = (scJ N W T : Int) := (i3 _ _ (by omega)).trans hC.1
    rw [b177_40, e33, if_pos (Int.le_refl _)]
  · have key : ∀ m, m ≤ scJ N W T → su (fun j => ab (scu N W T G j * ab (lpx N W T F x j - y) - scu N W T G j * ab (lpx N W T F x j))) m ≤ 9 * (m : Int) := by
      intro m
      induction m with
      | zero => intro _; exact Int.le_refl _
      | succ m ih =>
        intro hm
        have a := ih (by omega)
        have s := (ab_st (d := lpx N W T F x m) (y := y) (scu_in (G := G) hw (j := m) (by omega)) hy).1
        have b := ab_e (scu N W T G m * ab (lpx N W T F x m - y) - scu N W T G m * ab (lpx N W T F x m))
        rw [su]
        omega
    have := key _ (Nat.le_refl _)
    omega
  · rw [i2 R r1 r2, su_sub, su_add]
    show _ = _ + _ + su (fun j => scu N W T G j * ab (lpx N W T F (stp x (fun v => !R v) y) j)) (scJ N W T) - su (fun j => scu N W T G j * ab (lpx N W T F x j)) (scJ N W T)
    omega
  · have nn := su_nonneg (f := fun j => ab (scu N W T G j * ab (lpx N W T F x j - y) - scu N W T G j * ab (lpx N W T F x j)) + scu N W T G j * ab (lpx N W T F (stp x A y) j) - scu N W T G j * ab (lpx N W T F x j)) (n := scJ N W T) (fun j hj => jst_nn hw hj hy)
    rw [su_sub, su_add] at nn
    exact nn
end LAY
