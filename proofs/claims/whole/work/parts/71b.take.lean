/-! THE CLASS'S SCENE: taking a picture -/
section TAK
variable {S : zS} {h : zH} {o p W H : Nat} {le l2 : Int} {st wt ph : Nat → Int} {ho : Nat → Bool}
/-- who is there -/
def thr (st ph : Nat → Int) (ho : Nat → Bool) (l2 : Int) (k : Nat) : Bool := !decide (phs st ph l2 k = -1) && !ho k
theorem wfS_of (hw : wfP W H le st wt ph) : wfS W H (W * H) (thr st ph ho l2) (phs st ph l2) wt := by
  have hN : W * H ≤ 25 := by
    have := Nat.mul_le_mul hw.1.2 hw.2.1.2
    omega
  refine ⟨hw.1, hw.2.1, rfl, hN, fun k hk => ?_⟩
  have r := phs_in (le := l2) hw (show k < 25 by omega)
  refine ⟨r, fun t => ?_, (hw.2.2.2.2 k (by omega)).1⟩
  unfold thr at t
  rw [Bool.and_eq_true, Bool.not_eq_true', decide_eq_false_iff_not] at t
  omega
theorem PiC.cg {h' : zH} (hP : PiC h p W H le st wt ph ho) (e : ∀ x k, p ≤ x → x ≤ p + 4 → h' x k = h x k) : PiC h' p W H le st wt ph ho := by
  obtain ⟨a1, a2, a3, a4, a5⟩ := hP
  refine ⟨by rw [e _ _ (by omega) (by omega)]; exact a1, by rw [e _ _ (by omega) (by omega)]; exact a2, by rw [e _ _ (by omega) (by omega)]; exact a3, fun k hk => by rw [e _ _ (by omega) (by omega)]; exact a4 k hk, fun k hk => ?_⟩
  rw [e _ _ (by omega) (by omega), e _ _ (by omega) (by omega), e _ _ (by omega) (by omega)]
  exact a5 k hk
/-- Scene.take -/
theorem s_tak (hL : LX5 S o) (hLp : LX2 S p) (hd : p + 4 < o ∨ o + 7 < p) (hP : PiC h p W H le st wt ph ho) (hw : wfP W H le st wt ph) (hl : zint l2) : ∃ h', Zx 65 0 [zR o, zR p, zI l2, zN] [] S h = some (none, S, h') ∧ ScC h' o W H (W * H) (thr st ph ho l2) (phs st ph l2) wt ∧ ∀ x k, (x < o ∨ o + 3 < x) → h' x k = h x k := by
  have hN : W * H ≤ 25 := by
    have := Nat.mul_le_mul hw.1.2 hw.2.1.2
    omega
  have hPP := hP
  obtain ⟨a1, a2, a3, a4, a5⟩ := hPP
  have start : ∃ h0, Zx 65 0 [zR o, zR p, zI l2, zN] [] S h = Zx 65 19 [zR o, zR p, zI l2, zI ((0 : Nat) : Int)] [] S h0 ∧ (h0 o 0 = W ∧ h0 o 1 = H ∧ h0 o 2 = ((W * H : Nat) : Int)) ∧ ∀ x k, x ≠ o → h0 x k = h x k := by
    have e1 : Zx 65 0 [zR o, zR p, zI l2, zN] [] S h = Zx 65 10 [zR o, zR p, zI l2, zN] [zR p, zR o] S (zu (zu h o 0 (W : Int)) o 1 (H : Int)) := by
      rw [b65_0 hL hLp, zu_off (y := p) (Or.inl (by omega)), a1, a2]
    have r0 : zu (zu h o 0 (W : Int)) o 1 (H : Int) p 0 = W := by rw [zu_off (Or.inl (by omega)), zu_off (Or.inl (by omega)), a1]
    have r1 : zu (zu h o 0 (W : Int)) o 1 (H : Int) p 1 = H := by rw [zu_off (Or.inl (by omega)), zu_off (Or.inl (by omega)), a2]
    have e30 := b30_0 (S := S) (h := zu (zu h o 0 (W : Int)) o 1 (H : Int)) hLp
    rw [r0, r1, ← Int.natCast_mul] at e30
    have mn := s_min (S := S) (h := zu (zu h o 0 (W : Int)) o 1 (H : Int)) (a := ((W * H : Nat) : Int)) (b := 25) ⟨by omega, by omega⟩ ⟨by omega, by omega⟩
    rw [if_neg (show ¬ (25 : Int) < ((W * H : Nat) : Int) by omega)] at mn
    refine ⟨zu (zu (zu (zu h o 0 (W : Int)) o 1 (H : Int)) o 2 ((W * H : Nat) : Int)) o 6 0, ?_, ⟨?_, ?_, ?_⟩, fun x k hx => ?_⟩
    · rw [e1, b65_10 hL hLp hL hLp e30, b65_12 hL hLp hL mn]
      rfl
    · rw [zu_off (Or.inr (by decide)), zu_off (Or.inr (by decide)), zu_off (Or.inr (by decide)), zu_eq]
    · rw [zu_off (Or.inr (by decide)), zu_off (Or.inr (by decide)), zu_eq]
    · rw [zu_off (Or.inr (by decide)), zu_eq]
    · rw [zu_off (Or.inl hx), zu_off (Or.inl hx), zu_off (Or.inl hx), zu_off (Or.inl hx)]
  obtain ⟨h0, e0, f0, g0⟩ := start
  have all : ∀ i, i ≤ W * H → ∃ h', Zx 65 0 [zR o, zR p, zI l2, zN] [] S h = Zx 65 19 [zR o, zR p, zI l2, zI (i : Int)] [] S h' ∧ (h' o 0 = W ∧ h' o 1 = H ∧ h' o 2 = ((W * H : Nat) : Int)) ∧ (∀ k, k < i → zb1 (h' (o + 1) k) = (if thr st ph ho l2 k = true then 1 else 0) ∧ h' (o + 2) k = phs st ph l2 k ∧ h' (o + 3) k = wt k) ∧ ∀ x k, (x < o ∨ o + 3 < x) → h' x k = h x k := by
    intro i
    induction i with
    | zero => intro _; exact ⟨h0, e0, f0, fun k hk => absurd hk (Nat.not_lt_zero k), fun x k hx => g0 x k (by omega)⟩
    | succ i ih =>
      intro hi
      obtain ⟨h1, e1, ⟨f1, f2, f3⟩, s1, g1⟩ := ih (by omega)
      have P1 : PiC h1 p W H le st wt ph ho := hP.cg (fun x k _ _ => g1 x k (by omega))
      have rp := phs_in (le := l2) hw (show i < 25 by omega)
      have zp := zw_id (z := phs st ph l2 i) (by omega) (by omega)
      have w2 : zu h1 (o + 2) i (phs st ph l2 i) (p + 2) i = wt i := by rw [zu_off (Or.inl (by omega))]; exact (P1.2.2.2.2 i (by omega)).1
      have row : Zx 65 19 [zR o, zR p, zI l2, zI (i : Int)] [] S h1 = Zx 65 56 [zR o, zR p, zI l2, zI (i : Int)] [zI (if thr st ph ho l2 i = true then 1 else 0), zI (i : Int), zR (o + 1)] S (zu (zu h1 (o + 2) i (phs st ph l2 i)) (o + 3) i (wt i)) := by
        have r2 : zu (zu h1 (o + 2) i (phs st ph l2 i)) (o + 3) i (wt i) (o + 2) i = phs st ph l2 i := by rw [zu_off (Or.inl (by omega)), zu_eq]
        have r4 : zb1 (zu (zu h1 (o + 2) i (phs st ph l2 i)) (o + 3) i (wt i) (p + 4) i) = if ho i = true then 1 else 0 := by rw [zu_off (Or.inl (by omega)), zu_off (Or.inl (by omega))]; exact (P1.2.2.2.2 i (by omega)).2.2
        rw [b65_19 hL hLp, f3, zw_nat (by omega), zw_nat (by omega), if_neg (by omega), b65_29 hL hLp hL.2.2.1 (by omega) hLp (s_phs hLp P1 hw (by omega) hl) (by intros; omega) (by intros; omega) (by intros; omega) (by intros; omega) (by intros; omega) (by intros; omega) (by intros; omega) (by intros; omega) (by intros; omega) (by intros; omega), Int.toNat_natCast, w2, r2, r4, zp]
        unfold thr
        by_cases q1 : phs st ph l2 i = -1
        · rw [if_pos q1, b65_55 hL hLp hL.2.1 (by omega), if_neg (by simp [q1])]
        · rw [if_neg q1]
          cases q2 : ho i
          · rw [if_neg (show ¬ ¬ zw (if false = true then 1 else 0) = 0 from fun z => z zw0), if_pos (by simp [q1])]
          · rw [if_pos (show ¬ zw (if true = true then 1 else 0) = 0 by decide), b65_55 hL hLp hL.2.1 (by omega), if_neg (by simp)]
      refine ⟨zu (zu (zu h1 (o + 2) i (phs st ph l2 i)) (o + 3) i (wt i)) (o + 1) i (if thr st ph ho l2 i = true then 1 else 0), ?_, ⟨?_, ?_, ?_⟩, fun k hk => ?_, fun x k hx => ?_⟩
      · rw [e1, row, b65_56 hL hLp hL.2.1 (by omega) (by intros; omega) (by intros; omega), Int.toNat_natCast]
        rfl
      · rw [zu_off (Or.inl (by omega)), zu_off (Or.inl (by omega)), zu_off (Or.inl (by omega))]; exact f1
      · rw [zu_off (Or.inl (by omega)), zu_off (Or.inl (by omega)), zu_off (Or.inl (by omega))]; exact f2
      · rw [zu_off (Or.inl (by omega)), zu_off (Or.inl (by omega)), zu_off (Or.inl (by omega))]; exact f3
      · rw [zu_off (y := o + 2) (Or.inl (by omega)), zu_off (y := o + 2) (Or.inl (by omega)), zu_off (y := o + 3) (x := o + 1) (Or.inl (by omega))]
        by_cases q : k = i
        · subst q
          rw [zu_eq, zu_eq, zu_eq]
          refine ⟨?_, rfl, rfl⟩
          split <;> rfl
        · rw [zu_off (Or.inr q), zu_off (y := o + 1) (Or.inl (by omega)), zu_off (y := o + 1) (Or.inl (by omega)), zu_off (Or.inr q), zu_off (Or.inr q), zu_off (y := o + 3) (Or.inl (by omega))]
          exact s1 k (by omega)
      · rw [zu_off (Or.inl (by omega)), zu_off (Or.inl (by omega)), zu_off (Or.inl (by omega))]; exact g1 x k hx
  obtain ⟨h', e, ⟨f1, f2, f3⟩, s1, g1⟩ := all (W * H) (Nat.le_refl _)
  refine ⟨h', ?_, ⟨f1, f2, f3, s1⟩, g1⟩
  rw [e, b65_19 hL hLp, f3, if_pos (Int.le_refl _)]
end TAK
