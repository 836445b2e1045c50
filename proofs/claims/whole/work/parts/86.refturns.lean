/-! THE REFERENCE: findTurns -/
section RFT
variable {n : Nat} {h : zH} {W H N : Nat} {T : Nat → Bool} {F G : Nat → Int}
theorem isP_cg {q : Nat → Int} {m : Nat} {ρ : Nat → Nat} {T' : Nat → Bool} (e : ∀ k, k < N → T k = T' k) (I : isP N W T q m ρ) : isP N W T' q m ρ := by
  obtain ⟨a1, a2, a3, a4⟩ := I
  refine ⟨fun a b ha hb ta tb bb => a1 a b ha hb (by rw [e a ha]; exact ta) (by rw [e b hb]; exact tb) bb, fun p hp => ?_, a3, fun k hk tk => ?_⟩
  · obtain ⟨b1, b2, b3⟩ := a2 p hp
    exact ⟨b1, by rw [← e _ b1]; exact b2, b3⟩
  · obtain ⟨p, b1, b2, b3, b4⟩ := a4 k hk (by rw [e k hk]; exact tk)
    exact ⟨p, b1, b2, b3, fun R hR rr => b4 R (fun a b ha hb ta tb bb => hR a b ha hb (by rw [← e a ha]; exact ta) (by rw [← e b hb]; exact tb) bb) rr⟩
theorem pP_cg {T' : Nat → Bool} (e : ∀ k, k < N → T k = T' k) : pM N W T = pM N W T' ∧ ∀ k, k < N → T k = true → pP N W T k = pP N W T' k := by
  obtain ⟨ρ, I⟩ := pP_isP (N := N) (W := W) (T := T)
  obtain ⟨ρ', I'⟩ := pP_isP (N := N) (W := W) (T := T')
  obtain ⟨a, b, c⟩ := (isP_cg e I).uniq I'
  exact ⟨a, fun k hk tk => c k hk (by rw [← e k hk]; exact tk)⟩
theorem m_fp0 (hR : RfC h W H N T F G) (hw : wfS W H N T F G) : ∃ g : zH, Zx 170 0 [zR 202, zI 0, zN, zN, zN] [] (Z0 n) h = some (none, Z0 n, g) ∧ PaC g N W T ∧ ∀ x k, x ≠ 217 → ¬ (x = 202 ∧ k = 32) → g x k = h x k := by
  obtain ⟨g, e, a1, a2, a3⟩ := m_fpa (n := n) (hv := 0) hR hw ⟨by omega, by omega⟩
  have eT : ∀ k, k < N → (T k && decide (0 ≤ G k)) = T k := fun k hk => by
    have := (hw.2.2.2.2 k hk).2.2.1
    rw [decide_eq_true (show 0 ≤ G k by omega), Bool.and_true]
  obtain ⟨c1, c2⟩ := pP_cg (N := N) (W := W) (T := fun k => T k && decide (0 ≤ G k)) (T' := T) eT
  refine ⟨g, e, ⟨by rw [a1, c1], fun k hk => ?_⟩, a3⟩
  rw [a2 k hk, eT k hk]
  cases tk : T k
  · rw [if_neg (by decide), if_neg (by decide)]
  · rw [if_pos rfl, if_pos rfl]
    exact c2 k hk (by rw [eT k hk]; exact tk)
/-- what a step of the search leaves alone -/
def frT (g h : zH) : Prop := ∀ x k, x ≠ 222 → x ≠ 224 → x ≠ 225 → x ≠ 226 → x ≠ 227 → ¬ (x = 202 ∧ k = 44) → ¬ (x = 202 ∧ k = 40) → x ≠ 223 → g x k = h x k
theorem frT.tr {a b c : zH} (p : frT a b) (q : frT b c) : frT a c := fun x k q1 q2 q3 q4 q5 q6 q7 q8 => (p x k q1 q2 q3 q4 q5 q6 q7 q8).trans (q x k q1 q2 q3 q4 q5 q6 q7 q8)
theorem frT.rf {g : zH} (f : frT g h) (hR : RfC h W H N T F G) : RfC g W H N T F G := hR.cg (fun x k q => f x k (by omega) (by omega) (by omega) (by omega) (by omega) (by omega) (by omega) (by omega))
theorem frT.pa {g : zH} (f : frT g h) (hP : PaC h N W T) : PaC g N W T := hP.cg (fun x k q => f x k (by omega) (by omega) (by omega) (by omega) (by omega) (by omega) (by omega) (by omega))
theorem frT.cp {g : zH} (f : frT g h) (hC : CpC h N W T F G) : CpC g N W T F G := hC.cg (fun x k q => f x k (by omega) (by omega) (by omega) (by omega) (by omega) (by omega) (by omega) (by omega))
theorem TuC.up {g : zH} {x : Nat → Int} {B B' : Int} (hT : TuC g N T x B) (hB : B ≤ B') : TuC g N T x B' := fun k hk tk => by
  have := hT k hk tk
  exact ⟨this.1, by omega, by omega⟩
theorem TuC_stp {g g' : zH} {x : Nat → Int} {B y : Int} {A : Nat → Bool} (hT : TuC g N T x B) (hy : y = 1 ∨ y = -1) (e : ∀ k, k < N → T k = true → g' 222 k = stp x A y k) : TuC g' N T (stp x A y) (B + 1) := fun k hk tk => by
  have := hT k hk tk
  refine ⟨e k hk tk, ?_⟩
  unfold stp
  split <;> omega
/-- FringeBenchModel.goesIfLess -/
theorem m_gil {x : Nat → Int} {y B : Int} (hR : RfC h W H N T F G) (hP : PaC h N W T) (hC : CpC h N W T F G) (hw : wfS W H N T F G) (hT : TuC h N T x B) (hB : B ≤ 1000000) (hy : y = 1 ∨ y = -1) : ∃ (g : zH) (x' : Nat → Int), Zx 182 0 [zR 202, zI y, zN, zN] [] (Z0 n) h = some (none, Z0 n, g) ∧ frT g h ∧ ((x' = x ∧ TuC g N T x B ∧ ∀ A : Nat → Bool, (∀ v, isR N W T v → A v = false) → tco N W T F G x ≤ tco N W T F G (stp x A y)) ∨ ∃ A : Nat → Bool, (∀ v, isR N W T v → A v = false) ∧ x' = stp x A y ∧ TuC g N T (stp x A y) (B + 1) ∧ tco N W T F G (stp x A y) < tco N W T F G x) := by
  have h25 := hw.2.2.2.1
  have hT' := hT.up (show B ≤ 1100000 by omega)
  obtain ⟨g1, e1, a1, a2⟩ := z_inv (N := N) (X := fun i (g : zH) => Zx 182 5 [zR 202, zI y, zI (tco N W T F G x), zI (i : Int)] [] (Z0 n) g) (I := fun i g => (∀ k, k < i → g 227 k = h 222 k) ∧ ∀ x k, x ≠ 227 → g x k = h x k) (s := h) ⟨fun k q => absurd q (Nat.not_lt_zero k), fun x k _ => rfl⟩ (fun i g hi Ig => by
    refine ⟨zu g 227 i (g 222 i), ?_, fun k hk => ?_, fun x k q => ?_⟩
    · show Zx 182 5 _ _ _ _ = Zx 182 5 _ _ _ _
      have e23 : g 202 23 = N := (Ig.2 _ _ (by omega)).trans hR.2.2.1
      rw [b182_5 (by intros; omega) (by intros; omega) (by intros; omega) (by intros; omega), e23, zw_nat (by omega), zw_nat (by omega), if_neg (by omega), Int.toNat_natCast]
      rfl
    · by_cases c : k = i
      · rw [c, zu_eq]; exact Ig.2 _ _ (by omega)
      · rw [zu_off (by omega)]; exact Ig.1 k (by omega)
    · rw [zu_off (by omega)]; exact Ig.2 x k q)
  have fr1 : frT g1 h := fun x k _ _ _ _ q _ _ _ => a2 x k q
  obtain ⟨g2, A, w, e2, w2, sB, c2, f2⟩ := m_goe (n := n) (fr1.rf hR) (fr1.pa hP) (fr1.cp hC) hw (hT'.cg (fun k => a2 _ k (by omega))) hy
  have w01 : w = 0 ∨ w = 1 := by
    rcases w2 with ⟨q, _⟩ | ⟨q, _⟩
    · exact Or.inr q
    · exact Or.inl q
  have fr2 : frT (zu g2 202 44 w) g1 := fun x k q1 q2 q3 q4 q5 q6 q7 q8 => by rw [zu_off (by omega)]; exact f2 x k q1 q2 q3 q4
  have T2 : TuC (zu g2 202 44 w) N T (stp x A y) (B + 1) := TuC_stp hT hy (fun k hk tk => by rw [zu_off (by omega)]; exact c2 k hk tk)
  have start : Zx 182 0 [zR 202, zI y, zN, zN] [] (Z0 n) h = if zw (tco N W T F G (stp x A y)) < zw (tco N W T F G x) then some (none, Z0 n, zu g2 202 44 w) else Zx 182 30 [zR 202, zN, zN, zI 0] [] (Z0 n) (zu g2 202 44 w) := by
    rw [b182_0, b182_1 (m_con2 hC hw (hT.up (by omega)))]
    refine Eq.trans e1 ?_
    show Zx 182 5 _ _ _ _ = _
    have e23 : g1 202 23 = N := (a2 _ _ (by omega)).trans hR.2.2.1
    rw [b182_5 (by rw [e23]; intro q; exact absurd (Int.le_refl _) q) (by rw [e23]; intro q; exact absurd (Int.le_refl _) q) (by rw [e23]; intro q; exact absurd (Int.le_refl _) q) (by rw [e23]; intro q; exact absurd (Int.le_refl _) q), e23, if_pos (Int.le_refl _), b182_22 e2 w01, b182_25 (m_con2 ((fr2.tr fr1).cp hC) hw (T2.up (by omega))), b182_44]
  have z1 := tco_in hw (hT.up (show B ≤ 1100000 by omega)) (by omega)
  have z2 := tco_in hw (T2.up (show B + 1 ≤ 1100000 by omega)) (by omega)
  rw [zw_id (z := tco N W T F G x) (by omega) (by omega), zw_id (z := tco N W T F G (stp x A y)) (by omega) (by omega)] at start
  by_cases c : tco N W T F G (stp x A y) < tco N W T F G x
  · rw [if_pos c] at start
    exact ⟨_, stp x A y, start, fr2.tr fr1, Or.inr ⟨A, sB.1, rfl, T2, c⟩⟩
  · rw [if_neg c] at start
    obtain ⟨g3, e3, b1, b2⟩ := z_inv (N := N) (X := fun i (g : zH) => Zx 182 30 [zR 202, zN, zN, zI (i : Int)] [] (Z0 n) g) (I := fun i g => (∀ k, k < i → g 222 k = h 222 k) ∧ ∀ x k, x ≠ 222 → g x k = zu g2 202 44 w x k) (s := zu g2 202 44 w) ⟨fun k q => absurd q (Nat.not_lt_zero k), fun x k _ => rfl⟩ (fun i g hi Ig => by
      refine ⟨zu g 222 i (g 227 i), ?_, fun k hk => ?_, fun x k q => ?_⟩
      · show Zx 182 30 _ _ _ _ = Zx 182 30 _ _ _ _
        have e23 : g 202 23 = N := by
          rw [Ig.2 _ _ (by omega), zu_off (by omega), f2 _ _ (by omega) (by omega) (by omega) (by omega), a2 _ _ (by omega)]
          exact hR.2.2.1
        rw [b182_30 (by intros; omega) (by intros; omega) (by intros; omega) (by intros; omega), e23, zw_nat (by omega), zw_nat (by omega), if_neg (by omega), Int.toNat_natCast]
        rfl
      · by_cases c : k = i
        · rw [c, zu_eq, Ig.2 _ _ (by omega), zu_off (by omega), f2 _ _ (by omega) (by omega) (by omega) (by omega)]
          exact a1 i hi
        · rw [zu_off (by omega)]; exact Ig.1 k (by omega)
      · rw [zu_off (by omega)]; exact Ig.2 x k q)
    have fr3 : frT g3 (zu g2 202 44 w) := fun x k q _ _ _ _ _ _ _ => b2 x k q
    refine ⟨g3, x, ?_, fr3.tr (fr2.tr fr1), Or.inl ⟨rfl, fun k hk tk => ?_, fun A' hA => ?_⟩⟩
    · rw [start]
      refine Eq.trans e3 ?_
      show Zx 182 30 _ _ _ _ = _
      have e23 : g3 202 23 = N := by
        rw [b2 _ _ (by omega), zu_off (by omega), f2 _ _ (by omega) (by omega) (by omega) (by omega), a2 _ _ (by omega)]
        exact hR.2.2.1
      rw [b182_30 (by rw [e23]; intro q; exact absurd (Int.le_refl _) q) (by rw [e23]; intro q; exact absurd (Int.le_refl _) q) (by rw [e23]; intro q; exact absurd (Int.le_refl _) q) (by rw [e23]; intro q; exact absurd (Int.le_refl _) q), e23, if_pos (Int.le_refl _), b182_44]
    · rw [b1 k hk]
      exact hT k hk tk
    · have := sB.2.2.1 A' hA
      omega
theorem stp_zero {x : Nat → Int} {A : Nat → Bool} {y : Int} (hr : ∀ v, isR N W T v → x v = 0) (hA : ∀ v, isR N W T v → A v = false) : ∀ v, isR N W T v → stp x A y v = 0 := fun v hv => by
  rw [stp_f (hA v hv)]; exact hr v hv
/-- the search as long as it gets cheaper -/
theorem loc_all (hR : RfC h W H N T F G) (hP : PaC h N W T) (hC : CpC h N W T F G) (hw : wfS W H N T F G) {Q : Int} (hQ : Q ≤ 30000) : ∀ (m : Nat) (g : zH) (x : Nat → Int), tco N W T F G x ≤ (m : Int) → TuC g N T x (Q - tco N W T F G x) → (∀ v, isR N W T v → x v = 0) → frT g h → ∃ (g' : zH) (x' : Nat → Int), Zx 181 47 [zR 202, zN, zN] [zR 202] (Z0 n) g = Zx 181 62 [zR 202, zN, zN] [zI 1, zR 202, zR 202] (Z0 n) (zu g' 202 40 (tco N W T F G x')) ∧ isB N W T F G x' ∧ TuC g' N T x' 30000 ∧ frT g' h
  | m, g, x, hm, hT, hr, fr => by
    have t0 := su_nonneg (f := fun j => scu N W T G j * ab (lpx N W T F x j)) (n := scJ N W T) (fun j hj => Int.mul_nonneg (by have := (scu_in (G := G) hw hj).1; omega) (ab_nn _))
    have t0' : 0 ≤ tco N W T F G x := t0
    obtain ⟨g1, x1, e1, f1, r1⟩ := m_gil (n := n) (y := 1) (fr.rf hR) (fr.pa hP) (fr.cp hC) hw hT (by omega) (Or.inl rfl)
    have s1 : TuC g1 N T x1 (Q - tco N W T F G x1) ∧ (∀ v, isR N W T v → x1 v = 0) ∧ tco N W T F G x1 ≤ tco N W T F G x ∧ (x1 = x ∨ tco N W T F G x1 < tco N W T F G x) := by
      rcases r1 with ⟨rfl, a, b⟩ | ⟨A, a, rfl, b, c⟩
      · exact ⟨a, hr, Int.le_refl _, Or.inl rfl⟩
      · exact ⟨b.up (by omega), stp_zero hr a, by omega, Or.inr c⟩
    obtain ⟨u1, u2, u3, u4⟩ := s1
    have fr1 := f1.tr fr
    have t1' : 0 ≤ tco N W T F G x1 := su_nonneg (f := fun j => scu N W T G j * ab (lpx N W T F x1 j)) (n := scJ N W T) (fun j hj => Int.mul_nonneg (by have := (scu_in (G := G) hw hj).1; omega) (ab_nn _))
    obtain ⟨g2, x2, e2, f2, r2⟩ := m_gil (n := n) (y := -1) (fr1.rf hR) (fr1.pa hP) (fr1.cp hC) hw u1 (by omega) (Or.inr rfl)
    have s2 : TuC g2 N T x2 (Q - tco N W T F G x2) ∧ (∀ v, isR N W T v → x2 v = 0) ∧ tco N W T F G x2 ≤ tco N W T F G x1 ∧ (x2 = x1 ∨ tco N W T F G x2 < tco N W T F G x1) := by
      rcases r2 with ⟨rfl, a, b⟩ | ⟨A, a, rfl, b, c⟩
      · exact ⟨a, u2, Int.le_refl _, Or.inl rfl⟩
      · exact ⟨b.up (by omega), stp_zero u2 a, by omega, Or.inr c⟩
    obtain ⟨v1, v2, v3, v4⟩ := s2
    have fr2 := f2.tr fr1
    have t2' : 0 ≤ tco N W T F G x2 := su_nonneg (f := fun j => scu N W T G j * ab (lpx N W T F x2 j)) (n := scJ N W T) (fun j hj => Int.mul_nonneg (by have := (scu_in (G := G) hw hj).1; omega) (ab_nn _))
    have b0 := tco_in hw (hT.up (show Q - tco N W T F G x ≤ 1100000 by omega)) (by omega)
    have b2 := tco_in hw (v1.up (show Q - tco N W T F G x2 ≤ 1100000 by omega)) (by omega)
    have st : Zx 181 47 [zR 202, zN, zN] [zR 202] (Z0 n) g = if tco N W T F G x ≤ tco N W T F G x2 then Zx 181 62 [zR 202, zN, zN] [zI 1, zR 202, zR 202] (Z0 n) (zu g2 202 40 (tco N W T F G x)) else Zx 181 47 [zR 202, zN, zN] [zR 202] (Z0 n) g2 := by
      rw [b181_47 (m_con2 (fr.cp hC) hw (hT.up (by omega))), b181_51 e1, b181_54 e2, b181_42, b181_43 (m_con2 (fr2.cp hC) hw (v1.up (by omega))), zw_id (z := tco N W T F G x) (by omega) (by omega), zw_id (z := tco N W T F G x2) (by omega) (by omega)]
    by_cases c : tco N W T F G x ≤ tco N W T F G x2
    · rw [if_pos c] at st
      have x1e : x1 = x := by
        rcases u4 with q | q
        · exact q
        · omega
      have x2e : x2 = x1 := by
        rcases v4 with q | q
        · exact q
        · omega
      have hup : ∀ A : Nat → Bool, (∀ v, isR N W T v → A v = false) → tco N W T F G x ≤ tco N W T F G (stp x A 1) := by
        rcases r1 with ⟨_, _, b⟩ | ⟨A, _, q, _, c2⟩
        · exact b
        · rw [← q, x1e] at c2; omega
      have hdn : ∀ A : Nat → Bool, (∀ v, isR N W T v → A v = false) → tco N W T F G x ≤ tco N W T F G (stp x A (-1)) := by
        rcases r2 with ⟨_, _, b⟩ | ⟨A, _, q, _, c2⟩
        · rw [x1e] at b; exact b
        · rw [← q, x2e] at c2; omega
      refine ⟨g2, x, st, loc_best hw hr hup hdn, ?_, fr2⟩
      rw [x2e, x1e] at v1
      exact v1.up (by omega)
    · rw [if_neg c] at st
      cases m with
      | zero => omega
      | succ m =>
        obtain ⟨g', x', a1, a2, a3, a4⟩ := loc_all hR hP hC hw hQ m g2 x2 (by omega) v1 v2 fr2
        exact ⟨g', x', st.trans a1, a2, a3, a4⟩
end RFT
