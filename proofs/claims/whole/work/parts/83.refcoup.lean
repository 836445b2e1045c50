/-! THE REFERENCE: findCouples, leap, costNow -/
section RCP
variable {n : Nat} {h : zH} {W H N : Nat} {T : Nat → Bool} {F G : Nat → Int}
theorem bsd_lt {a b : Nat} (hW : 2 ≤ W ∧ W ≤ 5) (hab : a < b) : bsd W a b = true ↔ (b = a + 1 ∧ a % W + 1 < W) ∨ b = a + W := by
  unfold bsd
  rw [decide_eq_true_eq]
  obtain ⟨w1, w2⟩ := hW
  rcases (show W = 2 ∨ W = 3 ∨ W = 4 ∨ W = 5 by omega) with rfl | rfl | rfl | rfl <;> omega
/-- the couples found so far -/
def CpL (g : zH) (F G : Nat → Int) (L : List (Nat × Nat)) : Prop := g 202 33 = (L.length : Int) ∧ ∀ (j a b : Nat), L[j]? = some (a, b) → g 218 j = (a : Int) ∧ g 219 j = (b : Int) ∧ g 220 j = ofv F a b ∧ g 221 j = jdv G a b
theorem CpL.snoc {g : zH} {L : List (Nat × Nat)} (hC : CpL g F G L) {a b : Nat} : CpL (zu (zu (zu (zu (zu g 218 L.length (a : Int)) 219 L.length (b : Int)) 220 L.length (ofv F a b)) 221 L.length (jdv G a b)) 202 33 ((L.length : Int) + 1)) F G (L ++ [(a, b)]) := by
  refine ⟨by rw [zu_eq, List.length_append]; rfl, fun j x y e => ?_⟩
  rw [List.getElem?_append] at e
  by_cases q : j < L.length
  · rw [if_pos q] at e
    have := hC.2 j x y e
    refine ⟨?_, ?_, ?_, ?_⟩
    · (repeat (first | rw [zu_eq] | rw [zu_off (by omega)]))
      exact this.1
    · (repeat (first | rw [zu_eq] | rw [zu_off (by omega)]))
      exact this.2.1
    · (repeat (first | rw [zu_eq] | rw [zu_off (by omega)]))
      exact this.2.2.1
    · (repeat (first | rw [zu_eq] | rw [zu_off (by omega)]))
      exact this.2.2.2
  · rw [if_neg q] at e
    by_cases q2 : j = L.length
    · subst q2
      rw [Nat.sub_self] at e
      have e' : (a, b) = (x, y) := by simpa using e
      obtain ⟨rfl, rfl⟩ := Prod.mk.inj e'
      refine ⟨?_, ?_, ?_, ?_⟩ <;> (repeat (first | rw [zu_eq] | rw [zu_off (by omega)]))
    · rw [List.getElem?_eq_none (by simp; omega)] at e
      cases e
theorem m_cad {J a b : Nat} (hR : RfC h W H N T F G) (hw : wfS W H N T F G) (hJ : h 202 33 = (J : Int)) (h40 : J < 40) (ha : a < N) (hb : b < N) (hab : a < b) (bb : bsd W a b = true) : Zx 172 30 [zR 202, zI (a : Int), zI (b : Int)] [zI (b : Int), zI (a : Int), zR 202] (Z0 n) h = Zx 172 13 [zR 202, zI (a : Int), zI ((b + 1 : Nat) : Int)] [] (Z0 n) (zu (zu (zu (zu (zu h 218 J (a : Int)) 219 J (b : Int)) 220 J (ofv F a b)) 221 J (jdv G a b)) 202 33 ((J : Int) + 1)) := by
  have h25 := hw.2.2.2.1
  have wa := hw.2.2.2.2 a ha
  have wb := hw.2.2.2.2 b hb
  have ra := hR.2.2.2.1 a ha
  have rb := hR.2.2.2.1 b hb
  have k1 : (zu h 218 J (a : Int)) 202 33 = (J : Int) := by rw [zu_off (by omega)]; exact hJ
  have k2 : (zu (zu h 218 J (a : Int)) 219 J (b : Int)) 202 33 = (J : Int) := by rw [zu_off (by omega)]; exact k1
  have m := m_abs (n := n) (h := h) (W := W) hR.1 hw.1 (a := a) (b := b) (by omega) (by omega)
  rw [bb, if_pos rfl] at m
  have hR2 : RfC (zu (zu h 218 J (a : Int)) 219 J (b : Int)) W H N T F G := hR.cg (fun x k q => by rw [zu_off (by omega), zu_off (by omega)])
  have hd := hR2.dif (n := n) hw ha hb
  rw [b172_30 m (by rw [hJ]; intros; omega) (by rw [hJ]; intros; omega) (by rw [hJ, Int.toNat_natCast, k1]; intros; omega) (by rw [hJ, Int.toNat_natCast, k1]; intros; omega) (by intros; omega) (by intros; omega) (by intros; omega) (by intros; omega), if_neg (show ¬ zw 1 = 0 by decide), hJ, Int.toNat_natCast, k1, Int.toNat_natCast, k2, Int.toNat_natCast, Int.toNat_natCast, b172_60 (zcl220 n) (by omega) hd (by intros; omega) (by intros; omega) (by intros; omega) (by intros; omega) (by intros; omega) (by intros; omega), Int.toNat_natCast, Int.toNat_natCast, Int.toNat_natCast, (hR2.2.2.2.1 a ha).2.1, (hR2.2.2.2.1 b hb).2.1]
  have pd := pdif_in (a := a) (b := b) wa.1 wb.1
  have e1 : Int.tdiv (zw (F b - F a - pdif a b (F a) (F b))) 400 = ofv F a b := by
    rw [zw_id (by omega) (by omega)]; rfl
  rw [e1]
  have k3 : (zu (zu (zu h 218 J (a : Int)) 219 J (b : Int)) 220 J (ofv F a b)) 202 33 = (J : Int) := by rw [zu_off (by omega)]; exact k2
  have hR3 : RfC (zu (zu (zu h 218 J (a : Int)) 219 J (b : Int)) 220 J (ofv F a b)) W H N T F G := hR2.cg (fun x k q => by rw [zu_off (by omega)])
  rw [k3, (hR3.2.2.2.1 a ha).2.2, (hR3.2.2.2.1 b hb).2.2, b172_77 (zcl221 n) (by omega) s_lesser (by intros; omega) (by intros; omega), zw_id (z := G a) (by omega) (by omega), zw_id (z := G b) (by omega) (by omega), Int.toNat_natCast, zu_off (by omega), k3, b172_85]
  have e2 : (if G b ≤ G a then G b else G a) = jdv G a b := by
    unfold jdv
    by_cases c : G b < G a
    · rw [if_pos (by omega), if_pos c]
    · rw [if_neg c]
      by_cases d : G b ≤ G a
      · rw [if_pos d]; omega
      · rw [if_neg d]
  rw [e2]
  rfl
/-- the couples of one pixel up to another -/
def cpt (N W : Nat) (T : Nat → Bool) (a b : Nat) : List (Nat × Nat) := jl N W T a ++ (if a + 1 < b then jr W T a else []) ++ (if a + W < b then jd N W T a else [])
theorem m_cst {a b : Nat} {g : zH} (hR : RfC h W H N T F G) (hw : wfS W H N T F G) (ha : a < N) (hab : a < b) (hb : b < N) (fr : ∀ x k, x ≠ 218 → x ≠ 219 → x ≠ 220 → x ≠ 221 → ¬ (x = 202 ∧ k = 33) → g x k = h x k) (I : CpL g F G (cpt N W T a b)) : ∃ g', Zx 172 13 [zR 202, zI (a : Int), zI (b : Int)] [] (Z0 n) g = Zx 172 13 [zR 202, zI (a : Int), zI ((b + 1 : Nat) : Int)] [] (Z0 n) g' ∧ (∀ x k, x ≠ 218 → x ≠ 219 → x ≠ 220 → x ≠ 221 → ¬ (x = 202 ∧ k = 33) → g' x k = h x k) ∧ CpL g' F G (cpt N W T a (b + 1)) := by
  have h25 := hw.2.2.2.1
  have hRg : RfC g W H N T F G := hR.cg (fun x k q => fr x k (by omega) (by omega) (by omega) (by omega) (by omega))
  have st := b172_13 (n := n) (h := g) (l1 := (a : Int)) (l2 := (b : Int)) (by intros; omega) (by intros; omega) (by intros; omega) (by intros; omega)
  rw [hRg.2.2.1, zw_nat (by omega), zw_nat (by omega), if_neg (by omega), Int.toNat_natCast, Int.toNat_natCast] at st
  have wW := hw.1
  have bl := bsd_lt (W := W) hw.1 hab
  have same : ¬ (T a = true ∧ T b = true ∧ bsd W a b = true) → cpt N W T a (b + 1) = cpt N W T a b := fun c => by
    unfold cpt
    by_cases c1 : b = a + 1
    · subst c1
      rw [if_pos (show a + 1 < a + 1 + 1 by omega), if_neg (show ¬ a + 1 < a + 1 by omega), if_neg (show ¬ a + W < a + 1 + 1 by omega), if_neg (show ¬ a + W < a + 1 by omega)]
      unfold jr
      rw [if_neg (fun z => c ⟨z.2.1, z.2.2, bl.mpr (Or.inl ⟨rfl, z.1⟩)⟩)]
    · by_cases c2 : b = a + W
      · subst c2
        rw [if_pos (show a + 1 < a + W + 1 by omega), if_pos (show a + 1 < a + W by omega), if_pos (show a + W < a + W + 1 by omega), if_neg (show ¬ a + W < a + W by omega)]
        unfold jd
        rw [if_neg (fun z => c ⟨z.2.1, z.2.2, bl.mpr (Or.inr rfl)⟩)]
      · by_cases c3 : a + 1 < b
        · rw [if_pos c3, if_pos (show a + 1 < b + 1 by omega)]
          by_cases c4 : a + W < b
          · rw [if_pos c4, if_pos (show a + W < b + 1 by omega)]
          · rw [if_neg c4, if_neg (show ¬ a + W < b + 1 by omega)]
        · omega
  have tha := hRg.th ha
  have thb := hRg.th hb
  by_cases c1 : zw (zb1 (g 216 a)) = 0
  · rw [if_pos c1, b172_85] at st
    refine ⟨g, st, fr, ?_⟩
    rw [same (fun z => by rw [tha.mp c1] at z; exact Bool.noConfusion z.1)]
    exact I
  rw [if_neg c1] at st
  by_cases c2 : zw (zb1 (g 216 b)) = 0
  · rw [if_pos c2, b172_85] at st
    refine ⟨g, st, fr, ?_⟩
    rw [same (fun z => by rw [thb.mp c2] at z; exact Bool.noConfusion z.2.1)]
    exact I
  rw [if_neg c2] at st
  have ta : T a = true := by
    cases z : T a
    · exact absurd (tha.mpr z) c1
    · rfl
  have tb : T b = true := by
    cases z : T b
    · exact absurd (thb.mpr z) c2
    · rfl
  cases bb : bsd W a b
  · have m := m_abs (n := n) (h := g) (W := W) hRg.1 hw.1 (a := a) (b := b) (by omega) (by omega)
    rw [bb, if_neg (by decide)] at m
    rw [b172_30 m (by intro z; exact absurd zw0 z) (by intro z; exact absurd zw0 z) (by intro z; exact absurd zw0 z) (by intro z; exact absurd zw0 z) (by intro z; exact absurd zw0 z) (by intro z; exact absurd zw0 z) (by intro z; exact absurd zw0 z) (by intro z; exact absurd zw0 z), if_pos zw0, b172_85] at st
    refine ⟨g, st, fr, ?_⟩
    rw [same (fun z => by rw [bb] at z; exact Bool.noConfusion z.2.2)]
    exact I
  · have grow : cpt N W T a (b + 1) = cpt N W T a b ++ [(a, b)] ∧ (cpt N W T a b).length < 40 := by
      unfold cpt
      rcases bl.mp bb with ⟨e1, e2⟩ | e
      · subst e1
        rw [if_pos (show a + 1 < a + 1 + 1 by omega), if_neg (show ¬ a + 1 < a + 1 by omega), if_neg (show ¬ a + W < a + 1 + 1 by omega), if_neg (show ¬ a + W < a + 1 by omega), List.append_nil, List.append_nil, List.append_nil]
        refine ⟨?_, jr_40 hw.1 hw.2.1 hw.2.2.1 ha e2⟩
        unfold jr
        rw [if_pos ⟨e2, ta, tb⟩]
      · subst e
        rw [if_pos (show a + 1 < a + W + 1 by omega), if_pos (show a + 1 < a + W by omega), if_pos (show a + W < a + W + 1 by omega), if_neg (show ¬ a + W < a + W by omega), List.append_nil]
        refine ⟨?_, jd_40 hw.1 hw.2.1 hw.2.2.1 ha hb⟩
        unfold jd
        rw [if_pos ⟨hb, ta, tb⟩]
    rw [m_cad hRg hw I.1 grow.2 ha hb hab bb] at st
    refine ⟨_, st, fun x k q1 q2 q3 q4 q5 => ?_, ?_⟩
    · rw [zu_off (by omega), zu_off (by omega), zu_off (by omega), zu_off (by omega), zu_off (by omega)]
      exact fr x k q1 q2 q3 q4 q5
    · rw [grow.1]
      exact I.snoc
/-- couples as the theory has them -/
def CpC (g : zH) (N W : Nat) (T : Nat → Bool) (F G : Nat → Int) : Prop := g 202 33 = (scJ N W T : Int) ∧ ∀ j, j < scJ N W T → g 218 j = (scf N W T j : Int) ∧ g 219 j = (sct N W T j : Int) ∧ g 220 j = ofv F (scf N W T j) (sct N W T j) ∧ g 221 j = scu N W T G j
theorem CpC.cg {g g' : zH} (hC : CpC g N W T F G) (e : ∀ x k, (x = 202 ∧ k = 33) ∨ (218 ≤ x ∧ x ≤ 221) → g' x k = g x k) : CpC g' N W T F G := by
  refine ⟨by rw [e _ _ (by omega)]; exact hC.1, fun j hj => ?_⟩
  rw [e _ _ (by omega), e _ _ (by omega), e _ _ (by omega), e _ _ (by omega)]
  exact hC.2 j hj
/-- FringeBenchModel.findCouples -/
theorem m_fcp (hR : RfC h W H N T F G) (hw : wfS W H N T F G) : ∃ g : zH, Zx 172 0 [zR 202, zN, zN] [] (Z0 n) h = some (none, Z0 n, g) ∧ CpC g N W T F G ∧ ∀ x k, x ≠ 218 → x ≠ 219 → x ≠ 220 → x ≠ 221 → ¬ (x = 202 ∧ k = 33) → g x k = h x k := by
  have h25 := hw.2.2.2.1
  have hN := hw.2.2.1
  obtain ⟨g, e, fr, I⟩ := z_inv (N := N) (X := fun a (g : zH) => Zx 172 5 [zR 202, zI (a : Int), zN] [] (Z0 n) g) (I := fun a g => (∀ x k, x ≠ 218 → x ≠ 219 → x ≠ 220 → x ≠ 221 → ¬ (x = 202 ∧ k = 33) → g x k = h x k) ∧ CpL g F G (jl N W T a)) (s := zu h 202 33 0) ⟨fun x k _ _ _ _ q => by rw [zu_off (by omega)], zu_eq, fun j a b q => by simp [jl] at q⟩ (fun a g ha Ig => by
    obtain ⟨fr, I⟩ := Ig
    have e23 : g 202 23 = N := (fr _ _ (by omega) (by omega) (by omega) (by omega) (by omega)).trans hR.2.2.1
    obtain ⟨g', e, fr', I'⟩ := z_inv (N := N - (a + 1)) (X := fun t (u : zH) => Zx 172 13 [zR 202, zI (a : Int), zI ((a + 1 + t : Nat) : Int)] [] (Z0 n) u) (I := fun t u => (∀ x k, x ≠ 218 → x ≠ 219 → x ≠ 220 → x ≠ 221 → ¬ (x = 202 ∧ k = 33) → u x k = h x k) ∧ CpL u F G (cpt N W T a (a + 1 + t))) (s := g) ⟨fr, by
      have : cpt N W T a (a + 1 + 0) = jl N W T a := by
        unfold cpt
        rw [if_neg (by omega), if_neg (by have := hw.1; omega), List.append_nil, List.append_nil]
      rw [this]; exact I⟩ (fun t u ht Iu => m_cst hR hw ha (by omega) (by omega) Iu.1 Iu.2)
    have e23' : g' 202 23 = N := (fr' _ _ (by omega) (by omega) (by omega) (by omega) (by omega)).trans hR.2.2.1
    refine ⟨g', ?_, fr', ?_⟩
    · show Zx 172 5 _ _ _ _ = Zx 172 5 _ _ _ _
      rw [b172_5, e23, zw_nat (by omega), zw_nat (by omega), if_neg (by omega)]
      refine e.trans ?_
      show Zx 172 13 _ _ _ _ = _
      rw [show ((a + 1 + (N - (a + 1)) : Nat) : Int) = (N : Int) by omega, b172_13 (by rw [e23']; intro q; exact absurd (Int.le_refl _) q) (by rw [e23']; intro q; exact absurd (Int.le_refl _) q) (by rw [e23']; intro q; exact absurd (Int.le_refl _) q) (by rw [e23']; intro q; exact absurd (Int.le_refl _) q), e23', if_pos (Int.le_refl _)]
      rfl
    · have : cpt N W T a (a + 1 + (N - (a + 1))) = jl N W T (a + 1) := by
        rw [show a + 1 + (N - (a + 1)) = N by omega]
        unfold cpt
        show _ = jl N W T a ++ jr W T a ++ jd N W T a
        have e1 : (if a + 1 < N then jr W T a else []) = jr W T a := by
          by_cases c : a + 1 < N
          · rw [if_pos c]
          · rw [if_neg c]
            unfold jr
            rw [if_neg]
            rintro ⟨z, -⟩
            have z1 := hw.1
            have z2 := hw.2.1
            obtain ⟨w1, w2⟩ := z1
            rcases (show W = 2 ∨ W = 3 ∨ W = 4 ∨ W = 5 by omega) with rfl | rfl | rfl | rfl <;> omega
        have e2 : (if a + W < N then jd N W T a else []) = jd N W T a := by
          by_cases c : a + W < N
          · rw [if_pos c]
          · rw [if_neg c]
            unfold jd
            rw [if_neg (fun z => c z.1)]
        rw [e1, e2]
      rw [this] at I'
      exact I')
  refine ⟨g, ?_, ⟨I.1, fun j hj => I.2 j _ _ (jl_at hj).1⟩, fr⟩
  have e23 : g 202 23 = N := (fr _ _ (by omega) (by omega) (by omega) (by omega) (by omega)).trans hR.2.2.1
  rw [b172_0]
  refine e.trans ?_
  show Zx 172 5 _ _ _ _ = _
  rw [b172_5, e23, if_pos (Int.le_refl _)]
/-- turns in the reference -/
def TuC (g : zH) (N : Nat) (T : Nat → Bool) (x : Nat → Int) (B : Int) : Prop := ∀ k, k < N → T k = true → g 222 k = x k ∧ -B ≤ x k ∧ x k ≤ B
/-- the leap over a joint -/
def lpx (N W : Nat) (T : Nat → Bool) (F x : Nat → Int) (j : Nat) : Int := x (sct N W T j) - x (scf N W T j) + ofv F (scf N W T j) (sct N W T j)
theorem ofv_in (hw : wfS W H N T F G) {a b : Nat} (ha : a < N) (hb : b < N) : -4 ≤ ofv F a b ∧ ofv F a b ≤ 4 := by
  unfold ofv
  have wa := (hw.2.2.2.2 a ha).1
  have wb := (hw.2.2.2.2 b hb).1
  have pd := pdif_in (a := a) (b := b) wa wb
  exact td4 (by omega)
theorem lpx_in (hw : wfS W H N T F G) {x : Nat → Int} {B : Int} {g : zH} (hT : TuC g N T x B) {j : Nat} (hj : j < scJ N W T) : -(2 * B + 4) ≤ lpx N W T F x j ∧ lpx N W T F x j ≤ 2 * B + 4 := by
  obtain ⟨a1, a2, a3, a4, a5⟩ := sc_at hw hj
  have o := ofv_in hw (a := scf N W T j) (b := sct N W T j) (by omega) a2
  have t1 := hT _ (by omega) a3
  have t2 := hT _ a2 a4
  unfold lpx
  omega
/-- FringeBenchModel.leap -/
theorem m_lea {x : Nat → Int} {B : Int} (hC : CpC h N W T F G) (hw : wfS W H N T F G) (hT : TuC h N T x B) {j : Nat} (hj : j < scJ N W T) : Zx 173 0 [zR 202, zI (j : Int)] [] (Z0 n) h = some (some (zI (lpx N W T F x j)), Z0 n, h) := by
  obtain ⟨a1, a2, a3, a4, a5⟩ := sc_at hw hj
  obtain ⟨c1, c2, c3, c4⟩ := hC.2 j hj
  have h25 := hw.2.2.2.1
  have j40 : scJ N W T ≤ 40 := jl_40 hw.1 hw.2.1 hw.2.2.1
  have e1 : h 219 ((j : Int)).toNat = (sct N W T j : Int) := c2
  have e2 : h 218 ((j : Int)).toNat = (scf N W T j : Int) := c1
  rw [b173_0 (by (try rw [e1]); (try rw [e2]); omega) (by (try rw [e1]); (try rw [e2]); omega) (by (try rw [e1]); (try rw [e2]); omega) (by (try rw [e1]); (try rw [e2]); omega) (by (try rw [e1]); (try rw [e2]); omega) (by (try rw [e1]); (try rw [e2]); omega) (by (try rw [e1]); (try rw [e2]); omega) (by (try rw [e1]); (try rw [e2]); omega) (by (try rw [e1]); (try rw [e2]); omega) (by (try rw [e1]); (try rw [e2]); omega), Int.toNat_natCast, c1, c2, c3, Int.toNat_natCast, Int.toNat_natCast, (hT _ a2 a4).1, (hT _ (by omega) a3).1]
  rfl
theorem lab_in (hw : wfS W H N T F G) {x : Nat → Int} {B : Int} {g : zH} (hT : TuC g N T x B) {j : Nat} (hj : j < scJ N W T) : 0 ≤ scu N W T G j * ab (lpx N W T F x j) ∧ scu N W T G j * ab (lpx N W T F x j) ≤ 9 * (2 * B + 4) := by
  have l := lpx_in hw hT hj
  have u := scu_in hw hj
  have n := ab_nn (lpx N W T F x j)
  have a := ab_e (lpx N W T F x j)
  refine ⟨Int.mul_nonneg (by omega) n, ?_⟩
  have m1 := Int.mul_le_mul_of_nonneg_right u.2 n
  omega
/-- FringeBenchModel.costNow -/
theorem m_con2 {x : Nat → Int} (hC : CpC h N W T F G) (hw : wfS W H N T F G) (hT : TuC h N T x 1100000) : Zx 174 0 [zR 202, zN, zN] [] (Z0 n) h = some (some (zI (tco N W T F G x)), Z0 n, h) := by
  have j40 : scJ N W T ≤ 40 := jl_40 hw.1 hw.2.1 hw.2.2.1
  rw [b174_0]
  refine (z_chain (N := scJ N W T) (X := fun j => Zx 174 4 [zR 202, zI (su (fun j => scu N W T G j * ab (lpx N W T F x j)) j), zI (j : Int)] [] (Z0 n) h) (fun j hj => ?_)).trans ?_
  · show Zx 174 4 _ _ _ _ = Zx 174 4 _ _ _ _
    have l := lpx_in hw hT hj
    rw [b174_4 (by intros; omega) (by intros; omega), hC.1, zw_nat (by omega), zw_nat (by omega), if_neg (by omega), Int.toNat_natCast, (hC.2 j hj).2.2.2, b174_15 (m_lea hC hw hT hj), b174_16 (m_pla ⟨by omega, by omega⟩)]
    rfl
  · show Zx 174 4 _ _ _ _ = _
    rw [b174_4 (by rw [hC.1]; intro q; exact absurd (Int.le_refl _) q) (by rw [hC.1]; intro q; exact absurd (Int.le_refl _) q), hC.1, if_pos (Int.le_refl _)]
    rfl
theorem tco_in (hw : wfS W H N T F G) {x : Nat → Int} {B : Int} {g : zH} (hT : TuC g N T x B) (hB : 0 ≤ B) : 0 ≤ tco N W T F G x ∧ tco N W T F G x ≤ 40 * (9 * (2 * B + 4)) := by
  have j40 : scJ N W T ≤ 40 := jl_40 hw.1 hw.2.1 hw.2.2.1
  have e : tco N W T F G x = su (fun j => scu N W T G j * ab (lpx N W T F x j)) (scJ N W T) := rfl
  rw [e]
  refine ⟨su_nonneg (fun j hj => (lab_in hw hT hj).1), ?_⟩
  have : ∀ m, m ≤ scJ N W T → su (fun j => scu N W T G j * ab (lpx N W T F x j)) m ≤ 9 * (2 * B + 4) * m := by
    intro m
    induction m with
    | zero => intro _; show (0 : Int) ≤ _; omega
    | succ m ih =>
      intro hm
      have := ih (by omega)
      have l := (lab_in hw hT (j := m) (by omega)).2
      rw [su, Int.natCast_succ, Int.mul_add, Int.mul_one]
      omega
  have t := this _ (Nat.le_refl _)
  have m1 := Int.mul_le_mul_of_nonneg_left (Int.ofNat_le.mpr j40) (show 0 ≤ 9 * (2 * B + 4) by omega)
  refine Int.le_trans t (Int.le_trans m1 ?_)
  show 9 * (2 * B + 4) * 40 ≤ _
  omega
end RCP
