/-! THE REFERENCE: findParts -/
section RFP
variable {n : Nat} {h : zH} {W H N : Nat} {T : Nat → Bool} {F G : Nat → Int}
theorem bsd_q {a b : Nat} : bsd W a b = bsd W b a := by
  unfold bsd
  congr 1
  refine propext ⟨fun z => ?_, fun z => ?_⟩ <;> rcases z with ⟨z1, z2⟩ | ⟨z1, z2⟩
  · exact Or.inl ⟨z1.symm, z2.symm⟩
  · exact Or.inr ⟨z1.symm, z2.symm⟩
  · exact Or.inl ⟨z1.symm, z2.symm⟩
  · exact Or.inr ⟨z1.symm, z2.symm⟩
/-- labels under way -/
def LbI (N W : Nat) (T : Nat → Bool) (h0 g : zH) (r : Nat → Nat) : Prop := (∀ k, k < N → T k = true → g 217 k = (r k : Int) ∧ r k ≤ k ∧ T (r k) = true ∧ ∀ R : Nat → Bool, clo N W T R → R (r k) = true → R k = true) ∧ (∀ k, k < N → T k = false → g 217 k = -1) ∧ ∀ x k, x ≠ 217 → g x k = h0 x k
def lbm (N : Nat) (T : Nat → Bool) (r : Nat → Nat) : Int := su (fun k => if T k = true then (r k : Int) else 0) N
def LbP (N W : Nat) (T : Nat → Bool) (h0 : zH) (r0 : Nat → Nat) (a b : Nat) (s : zH × Int × (Nat → Nat)) : Prop := LbI N W T h0 s.1 s.2.2 ∧ ((s.2.1 = 0 ∧ s.2.2 = r0 ∧ ∀ a' b', a' < N → b' < N → T a' = true → T b' = true → bsd W a' b' = true → (a' < a ∨ (a' = a ∧ b' < b)) → r0 a' ≤ r0 b') ∨ (s.2.1 = 1 ∧ lbm N T s.2.2 < lbm N T r0))
theorem lb_step {h0 : zH} {r0 : Nat → Nat} {a b : Nat} {s : zH × Int × (Nat → Nat)} (hN : h0 202 23 = N) (hW0 : h0 202 20 = W) (hW : 2 ≤ W ∧ W ≤ 5) (h25 : N ≤ 25) (ha : a < N) (hb : b < N) (I : LbP N W T h0 r0 a b s) : ∃ s', Zx 170 39 [zR 202, zN, zI s.2.1, zI (a : Int), zI (b : Int)] [] (Z0 n) s.1 = Zx 170 39 [zR 202, zN, zI s'.2.1, zI (a : Int), zI ((b + 1 : Nat) : Int)] [] (Z0 n) s'.1 ∧ LbP N W T h0 r0 a (b + 1) s' := by
  obtain ⟨g, fl, r⟩ := s
  obtain ⟨⟨i1, i2, i3⟩, i4⟩ := I
  (try dsimp only at i1 i2 i3 i4 ⊢)
  have e23 : g 202 23 = N := (i3 _ _ (by omega)).trans hN
  have e20 : g 202 20 = W := (i3 _ _ (by omega)).trans hW0
  have zr : ∀ k, k < N → T k = true → zw (g 217 k) = (r k : Int) := fun k hk tk => by
    have := (i1 k hk tk).2.1
    rw [(i1 k hk tk).1, zw_nat (by omega)]
  have start := b170_39 (n := n) (h := g) (l2 := fl) (l3 := (a : Int)) (l4 := (b : Int)) (by intros; omega) (by intros; omega) (by intros; omega) (by intros; omega)
  rw [e23, zw_nat (by omega), zw_nat (by omega), if_neg (by omega), Int.toNat_natCast, Int.toNat_natCast] at start
  have keep : ∀ P : Prop, (T a = true → T b = true → bsd W a b = true → r a ≤ r b) → LbP N W T h0 r0 a (b + 1) (g, fl, r) := fun _ hk => by
    refine ⟨⟨i1, i2, i3⟩, ?_⟩
    rcases i4 with ⟨j1, j2, j3⟩ | j
    · refine Or.inl ⟨j1, j2, fun a' b' ha' hb' ta' tb' bb hlt => ?_⟩
      rcases hlt with q | ⟨q1, q2⟩
      · exact j3 a' b' ha' hb' ta' tb' bb (Or.inl q)
      · by_cases c : b' < b
        · exact j3 a' b' ha' hb' ta' tb' bb (Or.inr ⟨q1, c⟩)
        · have : b' = b := by omega
          subst this; subst q1
          rw [← j2]
          exact hk ta' tb' bb
    · exact Or.inr j
  cases ta : T a
  · rw [i2 a ha ta, zwm1, if_pos rfl, b170_79] at start
    exact ⟨(g, fl, r), start, keep True (fun z => by rw [ta] at z; cases z)⟩
  cases tb : T b
  · rw [zr a ha ta, if_neg (by omega), i2 b hb tb, zwm1, if_pos rfl, b170_79] at start
    exact ⟨(g, fl, r), start, keep True (fun _ z => by rw [tb] at z; cases z)⟩
  rw [zr a ha ta, if_neg (by omega), zr b hb tb, if_neg (by omega), b170_58 (m_abs (n := n) (h := g) (W := W) e20 hW (by omega) (by omega)) (by intros; omega) (by intros; omega) (by intros; omega) (by intros; omega) (by intros; omega) (by intros; omega) (by intros; omega) (by intros; omega), Int.toNat_natCast, Int.toNat_natCast, zr a ha ta, zr b hb tb] at start
  cases bb : bsd W a b
  · rw [bb, if_pos (show zw (if false = true then (1 : Int) else 0) = 0 by decide), b170_79] at start
    exact ⟨(g, fl, r), start, keep True (fun _ _ z => by rw [bb] at z; cases z)⟩
  rw [bb, if_neg (show ¬ zw (if true = true then (1 : Int) else 0) = 0 by decide)] at start
  by_cases c : r a ≤ r b
  · rw [if_pos (by omega), b170_79] at start
    exact ⟨(g, fl, r), start, keep True (fun _ _ _ => c)⟩
  rw [if_neg (by omega), b170_79] at start
  refine ⟨(zu g 217 a (g 217 b), 1, fun x => if x = a then r b else r x), start, ⟨fun k hk tk => ?_, fun k hk tk => ?_, fun x k q => ?_⟩, Or.inr ⟨rfl, ?_⟩⟩
  · (try dsimp only)
    by_cases q : k = a
    · subst q
      rw [zu_eq, if_pos rfl]
      obtain ⟨j1, j2, j3, j4⟩ := i1 b hb tb
      have := (i1 k hk ta).2.1
      refine ⟨j1, by omega, j3, fun R hR rb => ?_⟩
      rw [hR k b hk hb ta tb bb]
      exact j4 R hR rb
    · rw [zu_off (by omega), if_neg q]
      exact i1 k hk tk
  · (try dsimp only)
    have : k ≠ a := fun z => by rw [z, ta] at tk; cases tk
    rw [zu_off (by omega)]
    exact i2 k hk tk
  · (try dsimp only)
    rw [zu_off (by omega)]
    exact i3 x k q
  · (try dsimp only)
    have e : lbm N T (fun x => if x = a then r b else r x) = lbm N T r - (r a : Int) + (r b : Int) := by
      unfold lbm
      have s := su_set (f := fun k => if T k = true then (r k : Int) else 0) (n := N) (a := a) (x := (r b : Int)) ha
      (try dsimp only at s)
      rw [if_pos ta] at s
      rw [← s]
      refine su_congr (fun k _ => ?_)
      (try dsimp only)
      by_cases q : k = a
      · rw [if_pos q, if_pos q, q, if_pos ta]
      · rw [if_neg q, if_neg q]
    rw [e]
    rcases i4 with ⟨j1, j2, j3⟩ | ⟨j1, j2⟩
    · (try dsimp only at j2)
      subst j2
      omega
    · omega
theorem lb_pass {h0 : zH} {g : zH} {r : Nat → Nat} (hN : h0 202 23 = N) (hW0 : h0 202 20 = W) (hW : 2 ≤ W ∧ W ≤ 5) (h25 : N ≤ 25) (I : LbI N W T h0 g r) : ∃ s', Zx 170 33 [zR 202, zN, zI 0, zI 0, zN] [] (Z0 n) g = Zx 170 27 [zR 202, zN, zI s'.2.1, zN, zN] [] (Z0 n) s'.1 ∧ LbP N W T h0 r N 0 s' := by
  obtain ⟨s', e, I'⟩ := z_inv (N := N) (X := fun a s => Zx 170 33 [zR 202, zN, zI s.2.1, zI (a : Int), zN] [] (Z0 n) s.1) (I := fun a s => LbP N W T h0 r a 0 s) (s := ((g, 0, r) : zH × Int × (Nat → Nat))) ⟨I, Or.inl ⟨rfl, rfl, fun a' b' _ _ _ _ _ q => by rcases q with q | ⟨_, q⟩ <;> exact absurd q (Nat.not_lt_zero _)⟩⟩ (fun a s ha Is => by
    obtain ⟨s', e, I'⟩ := z_inv (N := N) (X := fun b s => Zx 170 39 [zR 202, zN, zI s.2.1, zI (a : Int), zI (b : Int)] [] (Z0 n) s.1) (I := fun b s => LbP N W T h0 r a b s) (s := s) Is (fun b s hb Is => lb_step hN hW0 hW h25 ha hb Is)
    refine ⟨s', ?_, I'.1, ?_⟩
    · show Zx 170 33 _ _ _ _ = Zx 170 33 _ _ _ _
      have e23 : s.1 202 23 = N := (Is.1.2.2 _ _ (by omega)).trans hN
      rw [b170_33, e23, zw_nat (by omega), zw_nat (by omega), if_neg (by omega)]
      refine e.trans ?_
      show Zx 170 39 _ _ _ _ = _
      have e23' : s'.1 202 23 = N := (I'.1.2.2 _ _ (by omega)).trans hN
      rw [b170_39 (by rw [e23']; intros; omega) (by rw [e23']; intros; omega) (by rw [e23']; intro q; exact absurd (Int.le_refl _) q) (by rw [e23']; intro q; exact absurd (Int.le_refl _) q), e23', if_pos (Int.le_refl _)]
      rfl
    · rcases I'.2 with ⟨j1, j2, j3⟩ | j
      · exact Or.inl ⟨j1, j2, fun a' b' ha' hb' ta tb bb q => j3 a' b' ha' hb' ta tb bb (by omega)⟩
      · exact Or.inr j)
  refine ⟨s', e.trans ?_, I'⟩
  show Zx 170 33 _ _ _ _ = _
  have e23' : s'.1 202 23 = N := (I'.1.2.2 _ _ (by omega)).trans hN
  rw [b170_33, e23', if_pos (Int.le_refl _)]
theorem lbm_nn {r : Nat → Nat} : 0 ≤ lbm N T r := su_nonneg (fun k _ => by split <;> omega)
theorem lb_all {h0 : zH} (hN : h0 202 23 = N) (hW0 : h0 202 20 = W) (hW : 2 ≤ W ∧ W ≤ 5) (h25 : N ≤ 25) : ∀ (m : Nat) (g : zH) (r : Nat → Nat), LbI N W T h0 g r → lbm N T r ≤ m → ∃ (g' : zH) (r' : Nat → Nat), Zx 170 27 [zR 202, zN, zI 1, zN, zN] [] (Z0 n) g = Zx 170 89 [zR 202, zN, zN, zI 0, zN] [] (Z0 n) (zu g' 202 32 0) ∧ LbI N W T h0 g' r' ∧ ∀ a b, a < N → b < N → T a = true → T b = true → bsd W a b = true → r' a = r' b
  | m, g, r, I, hm => by
    obtain ⟨s', e, I', c⟩ := lb_pass (n := n) hN hW0 hW h25 I
    have start : Zx 170 27 [zR 202, zN, zI 1, zN, zN] [] (Z0 n) g = Zx 170 27 [zR 202, zN, zI s'.2.1, zN, zN] [] (Z0 n) s'.1 := by
      rw [b170_27, if_neg (by decide), e]
    obtain ⟨g', fl, r'⟩ := s'
    (try dsimp only at I' c start)
    rcases c with ⟨j1, j2, j3⟩ | ⟨j1, j2⟩
    · subst j1; subst j2
      rw [b170_27, if_neg (by decide), b170_27, if_pos zw0] at start
      refine ⟨g', r', ?_, I', fun a b ha hb ta tb bb => ?_⟩
      · rw [b170_27, if_neg (by decide)]; exact start
      · have q1 := j3 a b ha hb ta tb bb (Or.inl ha)
        have q2 := j3 b a hb ha tb ta (by rw [bsd_q]; exact bb) (Or.inl hb)
        omega
    · subst j1
      have nn := lbm_nn (N := N) (T := T) (r := r')
      cases m with
      | zero => exact absurd hm (by omega)
      | succ m =>
        obtain ⟨g2, r2, e2, I2, c2⟩ := lb_all hN hW0 hW h25 m g' r' I' (by omega)
        exact ⟨g2, r2, start.trans e2, I2, c2⟩
end RFP
