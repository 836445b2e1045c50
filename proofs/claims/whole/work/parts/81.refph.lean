/-! THE REFERENCE: what it holds of a picture, its phases -/
theorem z_inv {α σ : Type} {X : Nat → σ → α} {I : Nat → σ → Prop} {s : σ} : ∀ {N : Nat}, I 0 s → (∀ i g, i < N → I i g → ∃ g', X i g = X (i + 1) g' ∧ I (i + 1) g') → ∃ g, X 0 s = X N g ∧ I N g
  | 0, h0, _ => ⟨s, rfl, h0⟩
  | N + 1, h0, hs => by
    obtain ⟨g, e, Ig⟩ := z_inv (N := N) h0 (fun i g hi => hs i g (by omega))
    obtain ⟨g', e', Ig'⟩ := hs N g (by omega) Ig
    exact ⟨g', e.trans e', Ig'⟩
/-- a picture's numbers in the reference's rows -/
def HdC (h : zH) (W H : Nat) (le : Int) (st wt ph : Nat → Int) (ho : Nat → Bool) : Prop := h 202 20 = W ∧ h 202 21 = H ∧ h 202 22 = le ∧ h 202 23 = ((W * H : Nat) : Int) ∧ (∀ k, k < 100 → h 211 k = st k) ∧ ∀ k, k < 25 → h 212 k = wt k ∧ h 213 k = ph k ∧ zb1 (h 214 k) = if ho k = true then 1 else 0
/-- a scene in the reference's rows -/
def RfC (h : zH) (W H N : Nat) (T : Nat → Bool) (F G : Nat → Int) : Prop := h 202 20 = W ∧ h 202 21 = H ∧ h 202 23 = N ∧ (∀ k, k < N → zb1 (h 216 k) = (if T k = true then 1 else 0) ∧ h 215 k = F k ∧ h 212 k = G k) ∧ ∀ k, N ≤ k → k < 25 → zb1 (h 216 k) = 0
section RPH
variable {n : Nat} {h : zH} {W H : Nat} {le : Int} {st wt ph : Nat → Int} {ho : Nat → Bool}
theorem HdC.cg {h' : zH} (hH : HdC h W H le st wt ph ho) (e : ∀ x k, (x = 202 ∧ 20 ≤ k ∧ k ≤ 23) ∨ (211 ≤ x ∧ x ≤ 214) → h' x k = h x k) : HdC h' W H le st wt ph ho := by
  obtain ⟨a, b, c, d, f, g⟩ := hH
  refine ⟨by rw [e _ _ (by omega)]; exact a, by rw [e _ _ (by omega)]; exact b, by rw [e _ _ (by omega)]; exact c, by rw [e _ _ (by omega)]; exact d, fun k hk => by rw [e _ _ (by omega)]; exact f k hk, fun k hk => ?_⟩
  rw [e _ _ (by omega), e _ _ (by omega), e _ _ (by omega)]
  exact g k hk
theorem RfC.cg {N : Nat} {T : Nat → Bool} {F G : Nat → Int} {h' : zH} (hH : RfC h W H N T F G) (e : ∀ x k, (x = 202 ∧ 20 ≤ k ∧ k ≤ 23) ∨ x = 212 ∨ x = 215 ∨ x = 216 → h' x k = h x k) : RfC h' W H N T F G := by
  obtain ⟨a, b, c, d, f⟩ := hH
  refine ⟨by rw [e _ _ (by omega)]; exact a, by rw [e _ _ (by omega)]; exact b, by rw [e _ _ (by omega)]; exact c, fun k hk => ?_, fun k hk hk' => by rw [e _ _ (by omega)]; exact f k hk hk'⟩
  rw [e _ _ (by omega), e _ _ (by omega), e _ _ (by omega)]
  exact d k hk
def rpv (W H : Nat) (le : Int) (st ph : Nat → Int) (k : Nat) : Int := if k < W * H then phs st ph le k else -1
def rpt (W H : Nat) (le : Int) (st ph : Nat → Int) (ho : Nat → Bool) (k : Nat) : Bool := decide (k < W * H) && thr st ph ho le k
theorem m_fphs (hH : HdC h W H le st wt ph ho) (hw : wfP W H le st wt ph) {i : Nat} (hi : i < 25) : Zx 165 5 [zR 202, zI (i : Int)] [] (Z0 n) h = Zx 165 5 [zR 202, zI ((i + 1 : Nat) : Int)] [] (Z0 n) (zu (zu (zu h 215 i (rpv W H le st ph i)) 216 i (chI (rpt W H le st ph ho i))) 202 30 (h 202 30 + chI (rpt W H le st ph ho i))) := by
  have hh := hH
  obtain ⟨a1, a2, a3, a4, a5, a6⟩ := hh
  have ww := hw
  obtain ⟨⟨w1, w2⟩, ⟨w3, w4⟩, w5, w6, w7⟩ := ww
  obtain ⟨b1, b2, b3⟩ := a6 i hi
  have hN : W * H ≤ 25 := by
    have := Nat.mul_le_mul w2 w4
    omega
  have pr := phs_in (le := le) (k := i) hw hi
  have vr : -1 ≤ rpv W H le st ph i ∧ rpv W H le st ph i < 400 := by
    unfold rpv
    split <;> omega
  have e31 : Zx 165 5 [zR 202, zI (i : Int)] [] (Z0 n) h = Zx 165 31 [zR 202, zI (i : Int)] [zI (rpv W H le st ph i), zI (i : Int), zR 215] (Z0 n) h := by
    rw [b165_5 (by intros; omega) (by intros; omega) (by intros; omega) (by intros; omega), zw_nat (by omega), if_neg (by omega), a4, zw_nat (by omega)]
    unfold rpv
    by_cases c : i < W * H
    · rw [if_pos (by omega), if_pos c, Int.toNat_natCast, b2, zw_id (by have := (w7 i hi).2.1; omega) (by have := (w7 i hi).2.2; omega)]
      unfold phs
      by_cases d : ph i = -1
      · rw [if_pos d, if_pos d, b165_30 (zcl215 n) (by omega) (m_pbs (st := st) (l2 := le) (fun k hk => ⟨a5 k hk, w6 k hk⟩) a3 w5 hi)]
      · rw [if_neg d, if_neg d]
    · rw [if_neg (by omega), if_neg c]
  rw [e31, b165_31 (zcl215 n) (by omega) (by intros; omega) (by intros; omega) (by intros; omega) (by intros; omega) (by intros; omega) (by intros; omega), Int.toNat_natCast, zu_eq, zw_id (z := rpv W H le st ph i) (by omega) (by omega), zu_off (by omega), b3]
  have fin : ∀ b : Bool, Zx 165 49 [zR 202, zI (i : Int)] [zI (chI b), zI (i : Int), zR 216] (Z0 n) (zu h 215 i (rpv W H le st ph i)) = Zx 165 5 [zR 202, zI ((i + 1 : Nat) : Int)] [] (Z0 n) (zu (zu (zu h 215 i (rpv W H le st ph i)) 216 i (chI b)) 202 30 (h 202 30 + chI b)) := by
    intro b
    rw [b165_49 (zcl216 n) (by omega) (by intros; omega) (by intros; omega) (by intros; omega) (by intros; omega), Int.toNat_natCast, zu_eq, zu_off (by omega), zu_off (by omega)]
    cases b
    · rw [if_pos (by decide), b165_61]
      rfl
    · rw [if_neg (by decide), b165_61]
      rfl
  have key : rpt W H le st ph ho i = (!decide (rpv W H le st ph i = -1) && !ho i) := by
    unfold rpt thr rpv
    by_cases c : i < W * H
    · rw [if_pos c, decide_eq_true c]; rfl
    · rw [if_neg c, decide_eq_false c]; rfl
  rw [key]
  by_cases c1 : rpv W H le st ph i = -1
  · rw [if_pos c1, b165_48 (zcl216 n) (by omega), decide_eq_true c1]
    exact fin false
  · rw [if_neg c1, decide_eq_false c1]
    cases ho i
    · rw [if_neg (by decide)]
      exact fin true
    · rw [if_pos (by decide), b165_48 (zcl216 n) (by omega)]
      exact fin false
/-- FringeBenchModel.findPhases -/
theorem m_fph (hH : HdC h W H le st wt ph ho) (hw : wfP W H le st wt ph) : ∃ h' : zH, Zx 165 0 [zR 202, zN] [] (Z0 n) h = some (none, Z0 n, h') ∧ HdC h' W H le st wt ph ho ∧ RfC h' W H (W * H) (thr st ph ho le) (phs st ph le) wt ∧ h' 202 30 = su (fun k => if thr st ph ho le k = true then 1 else 0) (W * H) ∧ (∀ k, W * H ≤ k → k < 25 → h' 215 k = -1) ∧ ∀ x k, x ≠ 215 → x ≠ 216 → ¬ (x = 202 ∧ k = 30) → h' x k = h x k := by
  have ww := hw
  obtain ⟨⟨w1, w2⟩, ⟨w3, w4⟩, w5, w6, w7⟩ := ww
  have hN : W * H ≤ 25 := by
    have := Nat.mul_le_mul w2 w4
    omega
  have hH0 : HdC (zu h 202 30 0) W H le st wt ph ho := hH.cg (fun x k q => by rw [zu_off (by omega)])
  obtain ⟨g, e, Ig⟩ := z_inv (N := 25) (X := fun i g => Zx 165 5 [zR 202, zI (i : Int)] [] (Z0 n) g) (I := fun i g => HdC g W H le st wt ph ho ∧ (∀ k, k < i → g 215 k = rpv W H le st ph k ∧ g 216 k = chI (rpt W H le st ph ho k)) ∧ g 202 30 = su (fun k => chI (rpt W H le st ph ho k)) i ∧ ∀ x k, x ≠ 215 → x ≠ 216 → ¬ (x = 202 ∧ k = 30) → g x k = h x k) (s := zu h 202 30 0) ⟨hH0, fun k q => absurd q (Nat.not_lt_zero k), zu_eq, fun x k q1 q2 q3 => by rw [zu_off (by omega)]⟩ (fun i g hi Ig => by
    obtain ⟨i1, i2, i3, i4⟩ := Ig
    refine ⟨_, m_fphs i1 hw hi, i1.cg (fun x k q => by rw [zu_off (by omega), zu_off (by omega), zu_off (by omega)]), fun k hk => ?_, ?_, fun x k q1 q2 q3 => by rw [zu_off (by omega), zu_off (by omega), zu_off (by omega)]; exact i4 x k q1 q2 q3⟩
    · by_cases c : k = i
      · subst c
        rw [zu_off (by omega), zu_off (by omega), zu_eq, zu_off (by omega), zu_eq]
        exact ⟨rfl, rfl⟩
      · rw [zu_off (by omega), zu_off (by omega), zu_off (by omega), zu_off (by omega), zu_off (by omega), zu_off (by omega)]
        exact i2 k (by omega)
    · rw [zu_eq, i3]
      rfl)
  obtain ⟨i1, i2, i3, i4⟩ := Ig
  have fin : Zx 165 0 [zR 202, zN] [] (Z0 n) h = some (none, Z0 n, g) := by
    rw [b165_0]
    refine e.trans ?_
    show Zx 165 5 _ _ _ _ = _
    rw [b165_5 (fun q => absurd (by decide) q) (fun q => absurd (by decide) q) (fun q => absurd (by decide) q) (fun q => absurd (by decide) q), if_pos (by decide)]
  refine ⟨g, fin, i1, ⟨i1.1, i1.2.1, i1.2.2.2.1, fun k hk => ?_, fun k hk hk' => ?_⟩, ?_, fun k hk hk' => ?_, i4⟩
  · obtain ⟨a, b⟩ := i2 k (by omega)
    refine ⟨?_, ?_, (i1.2.2.2.2.2 k (by omega)).1⟩
    · rw [b]
      unfold rpt
      rw [decide_eq_true hk, Bool.true_and]
      cases thr st ph ho le k <;> decide
    · rw [a]
      unfold rpv
      rw [if_pos hk]
  · rw [(i2 k hk').2]
    unfold rpt
    rw [decide_eq_false (by omega)]
    rfl
  · rw [i3]
    have e25 : ∀ m, W * H + m ≤ 25 → su (fun k => chI (rpt W H le st ph ho k)) (W * H + m) = su (fun k => if thr st ph ho le k = true then 1 else 0) (W * H) := by
      intro m
      induction m with
      | zero =>
        intro _
        refine su_congr (fun k hk => ?_)
        unfold rpt
        rw [decide_eq_true (show k < W * H from hk), Bool.true_and]
        rfl
      | succ m ih =>
        intro hm
        show su _ (W * H + m) + _ = _
        rw [ih (by omega)]
        have z : rpt W H le st ph ho (W * H + m) = false := by
          unfold rpt
          rw [decide_eq_false (by omega)]
          rfl
        show _ + chI (rpt W H le st ph ho (W * H + m)) = _
        rw [z]
        exact Int.add_zero _
    have := e25 (25 - W * H) (by omega)
    rwa [show W * H + (25 - W * H) = 25 by omega] at this
  · rw [(i2 k hk').1]
    unfold rpv
    rw [if_neg (by omega)]
end RPH
