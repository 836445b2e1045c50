/-! THE REFERENCE: findTurns, whole -/
/-- what findTurns leaves -/
def RtC (g : zH) (W H N : Nat) (T : Nat → Bool) (F G : Nat → Int) (z : Int) (tl tg : Nat → Int) : Prop := RfC g W H N T F G ∧ PaC g N W T ∧ CpC g N W T F G ∧ (∀ k, k < N → T k = true → g 228 k = pW N W T F k) ∧ g 202 40 = z ∧ isC N W T F G z ∧ isL N W T F G tl ∧ isG N W T F G tg ∧ TuC g N T tl 1100000 ∧ ∀ k, k < N → T k = true → g 223 k = tg k ∧ -1100000 ≤ tg k ∧ tg k ≤ 1100000
section RFU
variable {n : Nat} {h : zH} {W H N : Nat} {T : Nat → Bool} {F G : Nat → Int}
/-- how far below or above the end -/
theorem gap_lt {x : Nat → Int} {A : Nat → Bool} {v : Nat} {e : Nat → Int} (h1 : v < N) (h2 : T v = true) (h3 : A v = true) : su (fun k => if T k = true then e k - stp x A 1 k else 0) N + 1 ≤ su (fun k => if T k = true then e k - x k else 0) N := by
  have s : su (fun k => if T k = true then e k - x k else 0) N - su (fun k => if T k = true then e k - stp x A 1 k else 0) N = su (fun k => if T k = true ∧ A k = true then 1 else 0) N := by
    rw [← su_sub]
    refine su_congr (fun k _ => ?_)
    (try dsimp only)
    unfold stp
    cases T k <;> cases A k <;> simp <;> omega
  have nn := su_nonneg_le (f := fun k => if T k = true ∧ A k = true then (1 : Int) else 0) (n := N) (a := v) (fun k _ => by (try dsimp only); split <;> omega) h1
  (try dsimp only at nn)
  rw [if_pos ⟨h2, h3⟩] at nn
  omega
theorem gap_lt2 {x : Nat → Int} {A : Nat → Bool} {v : Nat} {e : Nat → Int} (h1 : v < N) (h2 : T v = true) (h3 : A v = true) : su (fun k => if T k = true then stp x A (-1) k - e k else 0) N + 1 ≤ su (fun k => if T k = true then x k - e k else 0) N := by
  have s : su (fun k => if T k = true then x k - e k else 0) N - su (fun k => if T k = true then stp x A (-1) k - e k else 0) N = su (fun k => if T k = true ∧ A k = true then 1 else 0) N := by
    rw [← su_sub]
    refine su_congr (fun k _ => ?_)
    (try dsimp only)
    unfold stp
    cases T k <;> cases A k <;> simp <;> omega
  have nn := su_nonneg_le (f := fun k => if T k = true ∧ A k = true then (1 : Int) else 0) (n := N) (a := v) (fun k _ => by (try dsimp only); split <;> omega) h1
  (try dsimp only at nn)
  rw [if_pos ⟨h2, h3⟩] at nn
  omega
theorem up_all (hR : RfC h W H N T F G) (hP : PaC h N W T) (hC : CpC h N W T F G) (hw : wfS W H N T F G) {tg : Nat → Int} (hg : isG N W T F G tg) (hgb : ∀ v, v < N → T v = true → tg v ≤ 1000030) : ∀ (m : Nat) (g : zH) (x : Nat → Int), su (fun k => if T k = true then tg k - x k else 0) N ≤ (m : Int) → isB N W T F G x → (∀ k, k < N → T k = true → g 222 k = x k ∧ -30000 ≤ x k) → frT g h → ∃ (g' : zH) (x' : Nat → Int), Zx 181 70 [zR 202, zN, zN] [zI 1, zR 202, zR 202] (Z0 n) g = Zx 181 75 [zR 202, zN, zI 0] [] (Z0 n) g' ∧ isG N W T F G x' ∧ (∀ k, k < N → T k = true → g' 222 k = x' k ∧ -30000 ≤ x' k) ∧ frT g' h ∧ g' 202 40 = g 202 40
  | m, g, x, hm, hx, hc, fr => by
    have hT : TuC g N T x 1100000 := fun k hk tk => by
      have a := hc k hk tk
      have b := hg.2 x hx k hk tk
      have c := hgb k hk tk
      exact ⟨a.1, by omega, by omega⟩
    obtain ⟨g2, A, w, e2, w2, sB, c2, f2⟩ := m_goe (n := n) (fr.rf hR) (fr.pa hP) (fr.cp hC) hw hT (Or.inl rfl)
    have fr2 : frT (zu g2 202 44 w) g := fun x k q1 q2 q3 q4 q5 q6 q7 q8 => by rw [zu_off (by omega)]; exact f2 x k q1 q2 q3 q4
    have hx2 := st_isB hx sB
    have hc2 : ∀ k, k < N → T k = true → (zu g2 202 44 w) 222 k = stp x A 1 k ∧ -30000 ≤ stp x A 1 k := fun k hk tk => by
      rw [zu_off (by omega)]
      refine ⟨c2 k hk tk, ?_⟩
      have := (hc k hk tk).2
      unfold stp
      split <;> omega
    have e40 : (zu g2 202 44 w) 202 40 = g 202 40 := by
      rw [zu_off (by omega)]
      exact f2 _ _ (by omega) (by omega) (by omega) (by omega)
    rcases w2 with ⟨q, v, qv⟩ | ⟨q, qv⟩
    · subst q
      have st : Zx 181 70 [zR 202, zN, zN] [zI 1, zR 202, zR 202] (Z0 n) g = Zx 181 70 [zR 202, zN, zN] [zI 1, zR 202, zR 202] (Z0 n) (zu g2 202 44 1) := by
        rw [b181_70 e2 (Or.inr rfl), b181_64, zu_eq, if_neg (by decide)]
      obtain ⟨v1, v2⟩ := sB.2.1 v qv
      have gl := gap_lt (T := T) (x := x) (A := A) (e := tg) v1 v2 qv
      have gn := su_nonneg (f := fun k => if T k = true then tg k - stp x A 1 k else 0) (n := N) (fun k hk => by
        (try dsimp only)
        by_cases tk : T k = true
        · rw [if_pos tk]
          have := hg.2 _ hx2 k hk tk
          omega
        · rw [if_neg tk]; exact Int.le_refl _)
      cases m with
      | zero => omega
      | succ m =>
        obtain ⟨g', x', a1, a2, a3, a4, a5⟩ := up_all hR hP hC hw hg hgb m _ _ (by omega) hx2 hc2 (fr2.tr fr)
        exact ⟨g', x', st.trans a1, a2, a3, a4, a5.trans e40⟩
    · subst q
      have ex : stp x A 1 = x := by
        have : A = fun _ => false := funext qv
        rw [this, stp_no]
      refine ⟨_, x, ?_, st_isG hw hx sB qv, ?_, fr2.tr fr, e40⟩
      · rw [b181_70 e2 (Or.inl rfl), b181_64, zu_eq, if_pos (by decide)]
      · rw [ex] at hc2
        exact hc2
theorem dn_all (hR : RfC h W H N T F G) (hP : PaC h N W T) (hC : CpC h N W T F G) (hw : wfS W H N T F G) {tl : Nat → Int} (hg : isL N W T F G tl) (hgb : ∀ v, v < N → T v = true → -1000030 ≤ tl v) : ∀ (m : Nat) (g : zH) (x : Nat → Int), su (fun k => if T k = true then x k - tl k else 0) N ≤ (m : Int) → isB N W T F G x → (∀ k, k < N → T k = true → g 222 k = x k ∧ x k ≤ 1000030) → frT g h → ∃ (g' : zH) (x' : Nat → Int), Zx 181 100 [zR 202, zN, zN] [zI (-1), zR 202, zR 202] (Z0 n) g = some (none, Z0 n, g') ∧ isL N W T F G x' ∧ (∀ k, k < N → T k = true → g' 222 k = x' k ∧ -1000030 ≤ x' k ∧ x' k ≤ 1000030) ∧ frT g' h ∧ g' 202 40 = g 202 40 ∧ ∀ k, g' 223 k = g 223 k
  | m, g, x, hm, hx, hc, fr => by
    have hT : TuC g N T x 1100000 := fun k hk tk => by
      have a := hc k hk tk
      have b := hg.2 x hx k hk tk
      have c := hgb k hk tk
      exact ⟨a.1, by omega, by omega⟩
    obtain ⟨g2, A, w, e2, w2, sB, c2, f2⟩ := m_goe (n := n) (fr.rf hR) (fr.pa hP) (fr.cp hC) hw hT (Or.inr rfl)
    have fr2 : frT (zu g2 202 44 w) g := fun x k q1 q2 q3 q4 q5 q6 q7 q8 => by rw [zu_off (by omega)]; exact f2 x k q1 q2 q3 q4
    have hx2 := st_isB hx sB
    have hc2 : ∀ k, k < N → T k = true → (zu g2 202 44 w) 222 k = stp x A (-1) k ∧ stp x A (-1) k ≤ 1000030 := fun k hk tk => by
      rw [zu_off (by omega)]
      refine ⟨c2 k hk tk, ?_⟩
      have := (hc k hk tk).2
      unfold stp
      split <;> omega
    have e40 : (zu g2 202 44 w) 202 40 = g 202 40 := by
      rw [zu_off (by omega)]
      exact f2 _ _ (by omega) (by omega) (by omega) (by omega)
    have e223 : ∀ k, (zu g2 202 44 w) 223 k = g 223 k := fun k => by
      rw [zu_off (by omega)]
      exact f2 _ _ (by omega) (by omega) (by omega) (by omega)
    rcases w2 with ⟨q, v, qv⟩ | ⟨q, qv⟩
    · subst q
      have st : Zx 181 100 [zR 202, zN, zN] [zI (-1), zR 202, zR 202] (Z0 n) g = Zx 181 100 [zR 202, zN, zN] [zI (-1), zR 202, zR 202] (Z0 n) (zu g2 202 44 1) := by
        rw [b181_100 e2 (Or.inr rfl), b181_94, zu_eq, if_neg (by decide)]
      obtain ⟨v1, v2⟩ := sB.2.1 v qv
      have gl := gap_lt2 (T := T) (x := x) (A := A) (e := tl) v1 v2 qv
      have gn := su_nonneg (f := fun k => if T k = true then stp x A (-1) k - tl k else 0) (n := N) (fun k hk => by
        (try dsimp only)
        by_cases tk : T k = true
        · rw [if_pos tk]
          have := hg.2 _ hx2 k hk tk
          omega
        · rw [if_neg tk]; exact Int.le_refl _)
      cases m with
      | zero => omega
      | succ m =>
        obtain ⟨g', x', a1, a2, a3, a4, a5, a6⟩ := dn_all hR hP hC hw hg hgb m _ _ (by omega) hx2 hc2 (fr2.tr fr)
        exact ⟨g', x', st.trans a1, a2, a3, a4, a5.trans e40, fun k => (a6 k).trans (e223 k)⟩
    · subst q
      have ex : stp x A (-1) = x := by
        have : A = fun _ => false := funext qv
        rw [this, stp_no]
      have il := st_isL hw hx sB qv
      refine ⟨_, x, ?_, il, fun k hk tk => ?_, fr2.tr fr, e40, e223⟩
      · rw [b181_100 e2 (Or.inl rfl), b181_94, zu_eq, if_pos (by decide)]
      · rw [ex] at hc2
        have a := hc2 k hk tk
        have b := hg.2 x hx k hk tk
        have c := hgb k hk tk
        exact ⟨a.1, by omega, a.2⟩
theorem e70 {g g2 : zH} {w : Int} (e : Zx 180 0 [zR 202, zI 1, zN, zN] [] (Z0 n) g = some (some (zI w), Z0 n, g2)) (hw : w = 0 ∨ w = 1) : Zx 181 62 [zR 202, zN, zN] [zI 1, zR 202, zR 202] (Z0 n) g = Zx 181 70 [zR 202, zN, zN] [zI 1, zR 202, zR 202] (Z0 n) g := by
  rw [b181_62 e hw, b181_70 e hw]
theorem e100 {g g2 : zH} {w : Int} (e : Zx 180 0 [zR 202, zI (-1), zN, zN] [] (Z0 n) g = some (some (zI w), Z0 n, g2)) (hw : w = 0 ∨ w = 1) : Zx 181 92 [zR 202, zN, zN] [zI (-1), zR 202, zR 202] (Z0 n) g = Zx 181 100 [zR 202, zN, zN] [zI (-1), zR 202, zR 202] (Z0 n) g := by
  rw [b181_92 e hw, b181_100 e hw]
/-- FringeBenchModel.findTurns -/
theorem m_ftu (hR : RfC h W H N T F G) (hw : wfS W H N T F G) : ∃ (g : zH) (z : Int) (tl tg : Nat → Int), Zx 181 0 [zR 202, zN, zN] [] (Z0 n) h = some (none, Z0 n, g) ∧ RtC g W H N T F G z tl tg ∧ ∀ x k, (x < 217 ∨ 229 < x) → ¬ (x = 202 ∧ (k = 32 ∨ k = 33 ∨ k = 40 ∨ k = 44)) → g x k = h x k := by
  have h25 := hw.2.2.2.1
  obtain ⟨g1, e1, P1, f1⟩ := m_fp0 (n := n) hR hw
  have R1 : RfC g1 W H N T F G := hR.cg (fun x k q => f1 x k (by omega) (by omega))
  obtain ⟨g2, e2, C2, f2⟩ := m_fcp (n := n) R1 hw
  have R2 : RfC g2 W H N T F G := R1.cg (fun x k q => f2 x k (by omega) (by omega) (by omega) (by omega) (by omega))
  have P2 : PaC g2 N W T := P1.cg (fun x k q => f2 x k (by omega) (by omega) (by omega) (by omega) (by omega))
  obtain ⟨g3, e3, W3, f3⟩ := m_wlk (n := n) R2 P2 hw
  have R3 : RfC g3 W H N T F G := R2.cg (fun x k q => f3 x k (by omega) (by omega))
  have P3 : PaC g3 N W T := P2.cg (fun x k q => f3 x k (by omega) (by omega))
  have C3 : CpC g3 N W T F G := C2.cg (fun x k q => f3 x k (by omega) (by omega))
  have start : Zx 181 0 [zR 202, zN, zN] [] (Z0 n) h = Zx 181 9 [zR 202, zI 0, zN] [] (Z0 n) g3 := by
    rw [b181_0, b181_2 e1, b181_4 e2, b181_6 e3]
  obtain ⟨g4, e4, i1, i2⟩ := z_inv (N := N) (X := fun i (g : zH) => Zx 181 9 [zR 202, zI (i : Int), zN] [] (Z0 n) g) (I := fun i g => (∀ k, k < i → T k = true → g 222 k = tw N W T F k) ∧ ∀ x k, x ≠ 222 → g x k = g3 x k) (s := g3) ⟨fun k q => absurd q (Nat.not_lt_zero k), fun x k _ => rfl⟩ (fun i g hi Ig => by
    have Rg : RfC g W H N T F G := R3.cg (fun x k q => Ig.2 x k (by omega))
    have th := Rg.th hi
    have st := b181_9 (n := n) (h := g) (l1 := (i : Int)) (by intros; omega) (by intros; omega) (by intros; omega) (by intros; omega) (by intros; omega) (by intros; omega)
    rw [Rg.2.2.1, zw_nat (by omega), zw_nat (by omega), if_neg (by omega), Int.toNat_natCast] at st
    by_cases c : zw (zb1 (g 216 i)) = 0
    · rw [if_pos c, b181_34 (zcl222 n) (by omega) (by intros; omega) (by intros; omega), Int.toNat_natCast] at st
      refine ⟨_, st, fun k hk tk => ?_, fun x k q => by rw [zu_off (by omega)]; exact Ig.2 x k q⟩
      have : k ≠ i := fun z => by rw [z, th.mp c] at tk; cases tk
      rw [zu_off (by omega)]
      exact Ig.1 k (by omega) tk
    · have ti : T i = true := by
        cases z : T i
        · exact absurd (th.mpr z) c
        · rfl
      have pw := pW_in (N := N) (W := W) (T := T) (F := F) h25 hw.f hi ti
      have fw := (hw.2.2.2.2 i hi).1
      rw [if_neg c, Ig.2 _ _ (by omega), W3 i hi ti, (Rg.2.2.2.1 i hi).2.1, zw_id (z := pW N W T F i - F i) (by omega) (by omega), b181_34 (zcl222 n) (by omega) (by intros; omega) (by intros; omega), Int.toNat_natCast] at st
      refine ⟨_, st, fun k hk tk => ?_, fun x k q => by rw [zu_off (by omega)]; exact Ig.2 x k q⟩
      by_cases d : k = i
      · rw [d, zu_eq]; rfl
      · rw [zu_off (by omega)]; exact Ig.1 k (by omega) tk)
  have R4 : RfC g4 W H N T F G := R3.cg (fun x k q => i2 x k (by omega))
  have P4 : PaC g4 N W T := P3.cg (fun x k q => i2 x k (by omega))
  have C4 : CpC g4 N W T F G := C3.cg (fun x k q => i2 x k (by omega))
  have T4 : TuC g4 N T (tw N W T F) 30 := fun k hk tk => ⟨i1 k hk tk, (tw_e hw hk tk).2⟩
  have tin := tco_in hw T4 (by omega)
  have st4 : Zx 181 9 [zR 202, zI (N : Int), zN] [] (Z0 n) g4 = Zx 181 47 [zR 202, zN, zN] [zR 202] (Z0 n) g4 := by
    rw [b181_9 (by rw [R4.2.2.1]; intro q; exact absurd (Int.le_refl _) q) (by rw [R4.2.2.1]; intro q; exact absurd (Int.le_refl _) q) (by rw [R4.2.2.1]; intro q; exact absurd (Int.le_refl _) q) (by rw [R4.2.2.1]; intro q; exact absurd (Int.le_refl _) q) (by rw [R4.2.2.1]; intro q; exact absurd (Int.le_refl _) q) (by rw [R4.2.2.1]; intro q; exact absurd (Int.le_refl _) q), R4.2.2.1, if_pos (Int.le_refl _), b181_38 (m_con2 C4 hw (T4.up (by omega))), b181_42, b181_43 (m_con2 C4 hw (T4.up (by omega))), zw_id (z := tco N W T F G (tw N W T F) + 1) (by omega) (by omega), zw_id (z := tco N W T F G (tw N W T F)) (by omega) (by omega), if_neg (by omega)]
  obtain ⟨g5, x5, e5, B5, T5, f5⟩ := loc_all (n := n) (h := g4) (Q := 30 + tco N W T F G (tw N W T F)) R4 P4 C4 hw (by omega) (tco N W T F G (tw N W T F)).toNat g4 (tw N W T F) (by omega) (T4.up (by omega)) (fun v hv => tw_root hw hv) (fun x k _ _ _ _ _ _ _ _ => rfl)
  have f5' : frT (zu g5 202 40 (tco N W T F G x5)) g4 := fun x k q1 q2 q3 q4 q5 q6 q7 q8 => by rw [zu_off (by omega)]; exact f5 x k q1 q2 q3 q4 q5 q6 q7 q8
  obtain ⟨tg, G1, G2⟩ := ex_G hw
  obtain ⟨tl, L1, L2⟩ := ex_L hw
  have T5' : TuC (zu g5 202 40 (tco N W T F G x5)) N T x5 30000 := fun k hk tk => by
    rw [zu_off (by omega)]
    exact T5 k hk tk
  obtain ⟨ga, Aa, wa, ea, wa2, -⟩ := m_goe (n := n) (y := 1) (f5'.rf R4) (f5'.pa P4) (f5'.cp C4) hw (T5'.up (by omega)) (Or.inl rfl)
  have wa01 : wa = 0 ∨ wa = 1 := by
    rcases wa2 with ⟨q, _⟩ | ⟨q, _⟩
    · exact Or.inr q
    · exact Or.inl q
  obtain ⟨g6, x6, e6, G6, c6, f6, z6⟩ := up_all (n := n) R4 P4 C4 hw G1 G2 (su (fun k => if T k = true then tg k - x5 k else 0) N).toNat _ x5 (by omega) B5 (fun k hk tk => ⟨(T5' k hk tk).1, (T5' k hk tk).2.1⟩) f5'
  rw [zu_eq] at z6
  obtain ⟨g7, e7, j1, j2⟩ := z_inv (N := N) (X := fun i (g : zH) => Zx 181 75 [zR 202, zN, zI (i : Int)] [] (Z0 n) g) (I := fun i g => (∀ k, k < i → g 223 k = g6 222 k) ∧ ∀ x k, x ≠ 223 → g x k = g6 x k) (s := g6) ⟨fun k q => absurd q (Nat.not_lt_zero k), fun x k _ => rfl⟩ (fun i g hi Ig => by
    refine ⟨zu g 223 i (g 222 i), ?_, fun k hk => ?_, fun x k q => ?_⟩
    · show Zx 181 75 _ _ _ _ = Zx 181 75 _ _ _ _
      have e23 : g 202 23 = N := (Ig.2 _ _ (by omega)).trans (f6.rf R4).2.2.1
      rw [b181_75 (by intros; omega) (by intros; omega) (by intros; omega) (by intros; omega), e23, zw_nat (by omega), zw_nat (by omega), if_neg (by omega), Int.toNat_natCast]
      rfl
    · by_cases c : k = i
      · rw [c, zu_eq]; exact Ig.2 _ _ (by omega)
      · rw [zu_off (by omega)]; exact Ig.1 k (by omega)
    · rw [zu_off (by omega)]; exact Ig.2 x k q)
  have f7 : frT g7 g4 := fun x k q1 q2 q3 q4 q5 q6 q7 q8 => (j2 x k q8).trans (f6 x k q1 q2 q3 q4 q5 q6 q7 q8)
  have st7 : Zx 181 75 [zR 202, zN, zI (N : Int)] [] (Z0 n) g7 = Zx 181 92 [zR 202, zN, zN] [zI (-1), zR 202, zR 202] (Z0 n) g7 := by
    have e23 : g7 202 23 = N := (f7.rf R4).2.2.1
    rw [b181_75 (by rw [e23]; intro q; exact absurd (Int.le_refl _) q) (by rw [e23]; intro q; exact absurd (Int.le_refl _) q) (by rw [e23]; intro q; exact absurd (Int.le_refl _) q) (by rw [e23]; intro q; exact absurd (Int.le_refl _) q), e23, if_pos (Int.le_refl _)]
  have c7 : ∀ k, k < N → T k = true → g7 222 k = x6 k ∧ x6 k ≤ 1000030 := fun k hk tk => by
    refine ⟨(j2 _ _ (by omega)).trans (c6 k hk tk).1, ?_⟩
    have a := G1.2 x6 G6.1 k hk tk
    have b := G2 k hk tk
    omega
  have T7 : TuC g7 N T x6 1100000 := fun k hk tk => ⟨(c7 k hk tk).1, by have := (c6 k hk tk).2; omega, by have := (c7 k hk tk).2; omega⟩
  obtain ⟨gb, Ab, wb, eb, wb2, -⟩ := m_goe (n := n) (y := -1) (f7.rf R4) (f7.pa P4) (f7.cp C4) hw T7 (Or.inr rfl)
  have wb01 : wb = 0 ∨ wb = 1 := by
    rcases wb2 with ⟨q, _⟩ | ⟨q, _⟩
    · exact Or.inr q
    · exact Or.inl q
  obtain ⟨g8, x8, e8, L8, c8, f8, z8, w8⟩ := dn_all (n := n) R4 P4 C4 hw L1 L2 (su (fun k => if T k = true then x6 k - tl k else 0) N).toNat g7 x6 (by omega) G6.1 c7 f7
  have fin : Zx 181 0 [zR 202, zN, zN] [] (Z0 n) h = some (none, Z0 n, g8) := by
    rw [start]
    refine e4.trans ?_
    show Zx 181 9 _ _ _ _ = _
    rw [st4, e5, e70 ea wa01, e6]
    refine e7.trans ?_
    show Zx 181 75 _ _ _ _ = _
    rw [st7, e100 eb wb01, e8]
  refine ⟨g8, tco N W T F G x5, x8, x6, fin, ⟨f8.rf R4, f8.pa P4, f8.cp C4, fun k hk tk => ?_, ?_, ⟨⟨x5, rfl⟩, B5.1⟩, L8, G6, fun k hk tk => ?_, fun k hk tk => ?_⟩, fun x k q1 q2 => ?_⟩
  · rw [f8 _ _ (by omega) (by omega) (by omega) (by omega) (by omega) (by omega) (by omega) (by omega), i2 _ _ (by omega)]
    exact W3 k hk tk
  · rw [z8, j2 _ _ (by omega)]
    exact z6
  · have := c8 k hk tk
    exact ⟨this.1, by omega, by omega⟩
  · rw [w8, j1 k hk]
    have a := c6 k hk tk
    have b := c7 k hk tk
    exact ⟨a.1, by omega, by omega⟩
  · rw [f8 _ _ (by omega) (by omega) (by omega) (by omega) (by omega) (by omega) (by omega) (by omega), i2 _ _ (by omega), f3 _ _ (by omega) (by omega), f2 _ _ (by omega) (by omega) (by omega) (by omega) (by omega), f1 _ _ (by omega) (by omega)]
end RFU
