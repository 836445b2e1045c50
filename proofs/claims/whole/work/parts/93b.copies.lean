/-! WHAT CHANGES THE STATE: copies -/
section CPX
variable {S : zS} {h : zH} {A : aS}
def PiE (g : zH) (o : Nat) (h : zH) (p : Nat) : Prop := (g o 0 = h p 0 ∧ g o 1 = h p 1 ∧ g o 2 = h p 2) ∧ (∀ k, k < 100 → g (o + 1) k = h (p + 1) k) ∧ ∀ k, k < 25 → g (o + 2) k = h (p + 2) k ∧ g (o + 3) k = h (p + 3) k ∧ zb1 (g (o + 4) k) = zb1 (h (p + 4) k)
def TrE (g : zH) (o : Nat) (h : zH) (p : Nat) : Prop := g o 0 = h p 0 ∧ ∀ k, k < 8 → g (o + 1) k = h (p + 1) k ∧ g (o + 2) k = h (p + 2) k
theorem PiE.cg {g g' h h' : zH} {o p : Nat} (e : PiE g o h p) (f : ∀ x k, o ≤ x → x ≤ o + 4 → g' x k = g x k) (f' : ∀ x k, p ≤ x → x ≤ p + 4 → h' x k = h x k) : PiE g' o h' p := by
  obtain ⟨⟨a, b, c⟩, d, i⟩ := e
  refine ⟨⟨by rw [f _ _ (by omega) (by omega), f' _ _ (by omega) (by omega)]; exact a, by rw [f _ _ (by omega) (by omega), f' _ _ (by omega) (by omega)]; exact b, by rw [f _ _ (by omega) (by omega), f' _ _ (by omega) (by omega)]; exact c⟩, fun k hk => by rw [f _ _ (by omega) (by omega), f' _ _ (by omega) (by omega)]; exact d k hk, fun k hk => ?_⟩
  rw [f _ _ (by omega) (by omega), f' _ _ (by omega) (by omega), f _ _ (by omega) (by omega), f' _ _ (by omega) (by omega), f _ _ (by omega) (by omega), f' _ _ (by omega) (by omega)]
  exact i k hk
theorem TrE.cg {g g' h h' : zH} {o p : Nat} (e : TrE g o h p) (f : ∀ x k, o ≤ x → x ≤ o + 2 → g' x k = g x k) (f' : ∀ x k, p ≤ x → x ≤ p + 2 → h' x k = h x k) : TrE g' o h' p := by
  obtain ⟨a, b⟩ := e
  refine ⟨by rw [f _ _ (by omega) (by omega), f' _ _ (by omega) (by omega)]; exact a, fun k hk => ?_⟩
  rw [f _ _ (by omega) (by omega), f' _ _ (by omega) (by omega), f _ _ (by omega) (by omega), f' _ _ (by omega) (by omega)]
  exact b k hk
/-- Picture.copy, whatever is there -/
theorem s_cpx {o p : Nat} (hL : LX2 S o) (hLp : LX2 S p) (hd : o + 4 < p ∨ p + 4 < o) : ∃ h', Zx 29 0 [zR o, zR p, zN] [] S h = some (none, S, h') ∧ PiE h' o h p ∧ ∀ x k, (x < o ∨ o + 4 < x) → h' x k = h x k := by
  have start : ∃ h0, Zx 29 0 [zR o, zR p, zN] [] S h = Zx 29 44 [zR o, zR p, zI ((0 : Nat) : Int)] [] S h0 ∧ (h0 o 0 = h p 0 ∧ h0 o 1 = h p 1 ∧ h0 o 2 = h p 2) ∧ (∀ k, k < 100 → h0 (o + 1) k = h (p + 1) k) ∧ (∀ k, k < 25 → h0 (o + 2) k = h (p + 2) k ∧ h0 (o + 3) k = h (p + 3) k) ∧ ∀ x k, (x < o ∨ o + 4 < x) → h0 x k = h x k := by
    refine ⟨_, b29_0 hL hLp, ⟨?_, ?_, ?_⟩, fun k hk => ?_, fun k hk => ⟨?_, ?_⟩, fun x k hx => ?_⟩
    · rw [zcpy_off (by omega), zcpy_off (by omega), zcpy_off (by omega), zu_off (Or.inr (by decide)), zu_off (Or.inr (by decide)), zu_eq]
    · rw [zcpy_off (by omega), zcpy_off (by omega), zcpy_off (by omega), zu_off (Or.inr (by decide)), zu_eq, zu_off (Or.inl (by omega))]
    · rw [zcpy_off (by omega), zcpy_off (by omega), zcpy_off (by omega), zu_eq, zu_off (Or.inl (by omega)), zu_off (Or.inl (by omega))]
    · rw [zcpy_off (by omega), zcpy_off (by omega), zcpy_in hk, zu_off (Or.inl (by omega)), zu_off (Or.inl (by omega)), zu_off (Or.inl (by omega))]
    · rw [zcpy_off (by omega), zcpy_in hk, zcpy_off (by omega), zu_off (Or.inl (by omega)), zu_off (Or.inl (by omega)), zu_off (Or.inl (by omega))]
    · rw [zcpy_in hk, zcpy_off (by omega), zcpy_off (by omega), zu_off (Or.inl (by omega)), zu_off (Or.inl (by omega)), zu_off (Or.inl (by omega))]
    · rw [zcpy_off (by omega), zcpy_off (by omega), zcpy_off (by omega), zu_off (Or.inl (by omega)), zu_off (Or.inl (by omega)), zu_off (Or.inl (by omega))]
  obtain ⟨h0, e0, f0, g1, g2, g3⟩ := start
  have all : ∀ i : Nat, i ≤ 25 → ∃ h', Zx 29 0 [zR o, zR p, zN] [] S h = Zx 29 44 [zR o, zR p, zI (i : Int)] [] S h' ∧ (∀ k, k < i → zb1 (h' (o + 4) k) = zb1 (h (p + 4) k)) ∧ ∀ x k, x ≠ o + 4 → h' x k = h0 x k := by
    intro i
    induction i with
    | zero => intro _; exact ⟨h0, e0, fun k hk => absurd hk (Nat.not_lt_zero k), fun x k _ => rfl⟩
    | succ i ih =>
      intro hi
      obtain ⟨h1, e1, m1, n1⟩ := ih (by omega)
      refine ⟨zu h1 (o + 4) i (zb1 (h1 (p + 4) i)), ?_, fun k hk => ?_, fun x k hx => by rw [zu_off (Or.inl hx)]; exact n1 x k hx⟩
      · rw [e1, b29_44 hL hLp (by intros; omega) (by intros; omega) (by intros; omega) (by intros; omega), zw_nat (by omega), if_neg (by omega), Int.toNat_natCast]
        rfl
      · by_cases q : k = i
        · rw [q, zu_eq, n1 (p + 4) i (by omega), g3 (p + 4) i (by omega)]
          unfold zb1; omega
        · rw [zu_off (Or.inr q)]
          exact m1 k (by omega)
  obtain ⟨h', e, m, n⟩ := all 25 (Nat.le_refl _)
  refine ⟨h', ?_, ⟨⟨?_, ?_, ?_⟩, fun k hk => ?_, fun k hk => ⟨?_, ?_, m k hk⟩⟩, fun x k hx => ?_⟩
  · rw [e, b29_44 hL hLp (by intro g; exact absurd (by decide) g) (by intro g; exact absurd (by decide) g) (by intro g; exact absurd (by decide) g) (by intro g; exact absurd (by decide) g), if_pos (by decide)]
  · rw [n _ _ (by omega)]; exact f0.1
  · rw [n _ _ (by omega)]; exact f0.2.1
  · rw [n _ _ (by omega)]; exact f0.2.2
  · rw [n _ _ (by omega)]; exact g1 k hk
  · rw [n _ _ (by omega)]; exact (g2 k hk).1
  · rw [n _ _ (by omega)]; exact (g2 k hk).2
  · rw [n _ _ (by omega)]; exact g3 x k hx
theorem PiE.pi {g h : zH} {o p : Nat} {D : pD} (e : PiE g o h p) (hP : PiD h p D) : PiD g o D := by
  obtain ⟨⟨a, b, c⟩, d, i⟩ := e
  obtain ⟨a1, a2, a3, a4, a5⟩ := hP
  exact ⟨a.trans a1, b.trans a2, c.trans a3, fun k hk => (d k hk).trans (a4 k hk), fun k hk => ⟨(i k hk).1.trans (a5 k hk).1, (i k hk).2.1.trans (a5 k hk).2.1, (i k hk).2.2.trans (a5 k hk).2.2⟩⟩
theorem TrE.tr {g h : zH} {o p : Nat} {t : tD} (e : TrE g o h p) (ht : wfT t) (hT : TrC h p t) : TrC g o t := ⟨e.1.trans hT.1, fun k hk => by
  have := ht.1
  exact ⟨(e.2 k (by omega)).1.trans (hT.2 k hk).1, (e.2 k (by omega)).2.trans (hT.2 k hk).2⟩⟩
/-- Told.copy -/
theorem s_cpA {o p : Nat} (hL : LX7 S o) (hLp : LX7 S p) (hd : o + 24 < p ∨ p + 24 < o) (hA : wfA A) (hT : ClT h p A) : ∃ h', Zx 90 0 [zR o, zR p, zN] [] S h = some (none, S, h') ∧ ClT h' o A ∧ ∀ x k, (x < o ∨ o + 24 < x) → h' x k = h x k := by
  obtain ⟨t1, t2, t3, t4, t5, t6, t7, t8⟩ := hT
  have hl := hA.1
  have np := hA.2.1
  have nt := hA.2.2.2.1
  obtain ⟨h0, e0, l0, y0, f0⟩ : ∃ h0, Zx 90 0 [zR o, zR p, zN] [] S h = Zx 90 14 [zR o, zR p, zI 0] [] S h0 ∧ h0 o 1 = h p 1 ∧ (∀ k, k < 600 → h0 (o + 1) k = h (p + 1) k) ∧ ∀ x k, x ≠ o → x ≠ o + 1 → h0 x k = h x k := by
    refine ⟨_, b90_0 hL hLp, ?_, fun k hk => ?_, fun x k q1 q2 => ?_⟩
    · rw [zu_eq, zcpy_off (by omega)]
    · rw [zu_off (by omega), zcpy_in hk]
    · rw [zu_off (by omega), zcpy_off (by omega)]
  obtain ⟨h1, e1, P1, f1⟩ := s_cpx (h := h0) hL.pic3 hLp.pic3 (by omega)
  obtain ⟨h2, e2, P2, f2⟩ := s_cpx (h := h1) hL.pic8 hLp.pic8 (by omega)
  obtain ⟨h3, e3, P3, f3⟩ := s_cpx (h := h2) hL.pic13 hLp.pic13 (by omega)
  obtain ⟨h5, e5, T5a, T5b, f5⟩ := s_cpt (h := zu h3 o 3 (h3 p 3)) hL.tri19 hLp.tri19 (by omega)
  obtain ⟨h6, e6, T6a, T6b, f6⟩ := s_cpt (h := h5) hL.tri22 hLp.tri22 (by omega)
  have st0 := b90_14 (S := S) (h := h0) (l0 := o) (l1 := p) (l2 := 0) (q0 := o + 3) (q1 := p + 3) hL hLp (by intros; omega) (by intros; omega) (fun _ => rfl) hL.pic3 (by intros; omega) (by intros; omega) (fun _ => rfl) hLp.pic3
  have st1 := b90_14 (S := S) (h := h1) (l0 := o) (l1 := p) (l2 := 0 + 1) (q0 := o + 8) (q1 := p + 8) hL hLp (by intros; omega) (by intros; omega) (fun _ => rfl) hL.pic8 (by intros; omega) (by intros; omega) (fun _ => rfl) hLp.pic8
  have st2 := b90_14 (S := S) (h := h2) (l0 := o) (l1 := p) (l2 := 0 + 1 + 1) (q0 := o + 13) (q1 := p + 13) hL hLp (by intros; omega) (by intros; omega) (fun _ => rfl) hL.pic13 (by intros; omega) (by intros; omega) (fun _ => rfl) hLp.pic13
  have st3 := b90_14 (S := S) (h := h3) (l0 := o) (l1 := p) (l2 := 0 + 1 + 1 + 1) (q0 := o + 13) (q1 := p + 13) hL hLp (fun q => absurd (by decide) q) (fun q => absurd (by decide) q) (fun q => absurd (by decide) q) hL.pic13 (fun q => absurd (by decide) q) (fun q => absurd (by decide) q) (fun q => absurd (by decide) q) hLp.pic13
  have st4 := b90_34 (S := S) (h := zu h3 o 3 (h3 p 3)) (l0 := o) (l1 := p) (l2 := 0) (q0 := o + 19) (q1 := p + 19) hL hLp (by intros; omega) (by intros; omega) (fun _ => rfl) hL.tri19 (by intros; omega) (by intros; omega) (fun _ => rfl) hLp.tri19
  have st5 := b90_34 (S := S) (h := h5) (l0 := o) (l1 := p) (l2 := 0 + 1) (q0 := o + 22) (q1 := p + 22) hL hLp (by intros; omega) (by intros; omega) (fun _ => rfl) hL.tri22 (by intros; omega) (by intros; omega) (fun _ => rfl) hLp.tri22
  have st6 := b90_34 (S := S) (h := h6) (l0 := o) (l1 := p) (l2 := 0 + 1 + 1) (q0 := o + 22) (q1 := p + 22) hL hLp (fun q => absurd (by decide) q) (fun q => absurd (by decide) q) (fun q => absurd (by decide) q) hL.tri22 (fun q => absurd (by decide) q) (fun q => absurd (by decide) q) (fun q => absurd (by decide) q) hLp.tri22
  rw [if_neg (by decide)] at st0 st1 st2 st4 st5
  rw [if_pos (by decide)] at st3 st6


  have F : ∀ x k, (x < o ∨ o + 24 < x) → h6 x k = h x k := fun x k q => by
    rw [f6 x k (by omega), f5 x k (by omega), zu_off (by omega), f3 x k (by omega), f2 x k (by omega), f1 x k (by omega), f0 x k (by omega) (by omega)]
  have G1 : ∀ x k, (o ≤ x ∧ x ≤ o + 2) → k ≠ 3 → h6 x k = h0 x k := fun x k q z => by
    rw [f6 x k (by omega), f5 x k (by omega), zu_off (by omega), f3 x k (by omega), f2 x k (by omega), f1 x k (by omega)]
  have G2 : ∀ x k, x = o + 1 → h6 x k = h0 x k := fun x k q => by
    rw [f6 x k (by omega), f5 x k (by omega), zu_off (by omega), f3 x k (by omega), f2 x k (by omega), f1 x k (by omega)]
  have G3 : h6 o 3 = h p 3 := by
    rw [f6 _ _ (by omega), f5 _ _ (by omega), zu_eq, f3 _ _ (by omega), f2 _ _ (by omega), f1 _ _ (by omega), f0 _ _ (by omega) (by omega)]
  have Q1 : PiE h6 (o + 3) h (p + 3) := P1.cg (fun x k a b => by rw [f6 x k (by omega), f5 x k (by omega), zu_off (by omega), f3 x k (by omega), f2 x k (by omega)]) (fun x k a b => (f0 x k (by omega) (by omega)).symm)
  have Q2 : PiE h6 (o + 8) h (p + 8) := P2.cg (fun x k a b => by rw [f6 x k (by omega), f5 x k (by omega), zu_off (by omega), f3 x k (by omega)]) (fun x k a b => by rw [f1 x k (by omega), f0 x k (by omega) (by omega)])
  have Q3 : PiE h6 (o + 13) h (p + 13) := P3.cg (fun x k a b => by rw [f6 x k (by omega), f5 x k (by omega), zu_off (by omega)]) (fun x k a b => by rw [f2 x k (by omega), f1 x k (by omega), f0 x k (by omega) (by omega)])
  have R1 : TrE h6 (o + 19) h (p + 19) := TrE.cg (g := h5) (h := zu h3 o 3 (h3 p 3)) ⟨T5a, T5b⟩ (fun x k a b => f6 x k (by omega)) (fun x k a b => by rw [zu_off (by omega), f3 x k (by omega), f2 x k (by omega), f1 x k (by omega), f0 x k (by omega) (by omega)])
  have R2 : TrE h6 (o + 22) h (p + 22) := TrE.cg (g := h6) (h := h5) ⟨T6a, T6b⟩ (fun x k a b => rfl) (fun x k a b => by rw [f5 x k (by omega), zu_off (by omega), f3 x k (by omega), f2 x k (by omega), f1 x k (by omega), f0 x k (by omega) (by omega)])
  refine ⟨zu (zu (zu h6 o 5 (h6 p 5)) o 6 ((zu h6 o 5 (h6 p 5)) p 6)) o 7 ((zu (zu h6 o 5 (h6 p 5)) o 6 ((zu h6 o 5 (h6 p 5)) p 6)) p 7), ?_, ⟨?_, fun k hk => ?_, ?_, fun j hj => ?_, ?_, fun j hj => ?_, ?_, ?_⟩, fun x k q => by rw [zu_off (by omega), zu_off (by omega), zu_off (by omega)]; exact F x k q⟩
  · rw [e0, st0, b90_25 hL hLp hL.pic3 hLp.pic3 e1, st1, b90_25 hL hLp hL.pic8 hLp.pic8 e2, st2, b90_25 hL hLp hL.pic13 hLp.pic13 e3, st3, st4, b90_45 hL hLp hL.tri19 hLp.tri19 e5, st5, b90_45 hL hLp hL.tri22 hLp.tri22 e6, st6]
  · rw [zu_off (by omega), zu_off (by omega), zu_off (by omega), G1 _ _ (by omega) (by omega), l0, t1]
  · rw [zu_off (by omega), zu_off (by omega), zu_off (by omega), G2 _ _ rfl, y0 k (by omega)]
    exact t2 k hk
  · rw [zu_off (by omega), zu_off (by omega), zu_off (by omega), G3, t3]
  · have hP := t4 j hj
    have E : PiE h6 (o + 3 + 5 * j) h (p + 3 + 5 * j) := by
      rcases (by omega : j = 0 ∨ j = 1 ∨ j = 2) with e | e | e <;> subst e
      · exact Q1
      · exact Q2
      · exact Q3
    exact (E.pi hP).cg2 (fun x k a b => by rw [zu_off (by omega), zu_off (by omega), zu_off (by omega)])
  · rw [zu_off (by omega), zu_off (by omega), zu_eq, F _ _ (by omega), t5]
  · have hT := t6 j hj
    have E : TrE h6 (o + 19 + 3 * j) h (p + 19 + 3 * j) := by
      rcases (by omega : j = 0 ∨ j = 1) with e | e <;> subst e
      · exact R1
      · exact R2
    have E' : TrE (zu (zu (zu h6 o 5 (h6 p 5)) o 6 ((zu h6 o 5 (h6 p 5)) p 6)) o 7 ((zu (zu h6 o 5 (h6 p 5)) o 6 ((zu h6 o 5 (h6 p 5)) p 6)) p 7)) (o + 19 + 3 * j) h (p + 19 + 3 * j) := E.cg (fun x k a b => by rw [zu_off (by omega), zu_off (by omega), zu_off (by omega)]) (fun _ _ _ _ => rfl)
    exact E'.tr (hA.2.2.2.2.1 j hj) hT
  · rw [zu_off (by omega), zu_eq, zu_off (by omega), F _ _ (by omega), t7]
  · rw [zu_eq, zu_off (by omega), zu_off (by omega), F _ _ (by omega), t8]
/-- what belongs to a place in the reference -/
def inS (t x k : Nat) : Prop := (x = 203 ∧ 600 * t ≤ k ∧ k < 600 * t + 600) ∨ ((x = 204 ∨ x = 205 ∨ x = 206) ∧ k = t) ∨ (x = 207 ∧ 2 * t ≤ k ∧ k < 2 * t + 2) ∨ (x = 208 ∧ 534 * t ≤ k ∧ k < 534 * t + 534) ∨ (x = 209 ∧ 34 * t ≤ k ∧ k < 34 * t + 34)
theorem McT.mv {s t : Nat} {h' : zH} (hT : McT h s A) (hA : wfA A) (a : ∀ i, i < 600 → zb8 (h' 203 (600 * t + i)) = zb8 (h 203 (600 * s + i))) (b : h' 204 t = h 204 s) (c : h' 205 t = h 205 s) (d : h' 206 t = h 206 s) (e : ∀ i, i < 2 → h' 207 (2 * t + i) = h 207 (2 * s + i)) (f : ∀ i, i < 534 → h' 208 (534 * t + i) = h 208 (534 * s + i)) (g : ∀ i, i < 34 → h' 209 (34 * t + i) = h 209 (34 * s + i)) : McT h' t A := by
  obtain ⟨t1, t2, t3, t4, t5, t6, t7, t8⟩ := hT
  have hl := hA.1
  have np := hA.2.1
  have nt := hA.2.2.2.1
  refine ⟨b.trans t1, fun k hk => (a k (by omega)).trans (t2 k hk), ?_, fun p hp => ?_, ?_, fun j hj => ?_, c.trans t7, d.trans t8⟩
  · have := e 0 (by omega)
    exact this.trans t3
  · obtain ⟨d1, d2, d3, d4, d5⟩ := t4 p hp
    have q : ∀ i, i < 178 → h' 208 (534 * t + 178 * p + i) = h 208 (534 * s + 178 * p + i) := fun i hi => by
      have := f (178 * p + i) (by omega)
      rw [← Nat.add_assoc, ← Nat.add_assoc] at this
      exact this
    refine ⟨(q 0 (by omega)).trans d1, (q 1 (by omega)).trans d2, (q 2 (by omega)).trans d3, fun k hk => ?_, fun k hk => ⟨?_, ?_, ?_⟩⟩
    · have := q (3 + k) (by omega)
      rw [← Nat.add_assoc, ← Nat.add_assoc] at this
      exact this.trans (d4 k hk)
    · have := q (103 + k) (by omega)
      rw [← Nat.add_assoc, ← Nat.add_assoc] at this
      exact this.trans (d5 k hk).1
    · have := q (128 + k) (by omega)
      rw [← Nat.add_assoc, ← Nat.add_assoc] at this
      exact this.trans (d5 k hk).2.1
    · have := q (153 + k) (by omega)
      rw [← Nat.add_assoc, ← Nat.add_assoc] at this
      exact this.trans (d5 k hk).2.2
  · have := e 1 (by omega)
    exact this.trans t5
  · obtain ⟨d1, d2⟩ := t6 j hj
    have w := (hA.2.2.2.2.1 j hj).1
    have q : ∀ i, i < 17 → h' 209 (34 * t + 17 * j + i) = h 209 (34 * s + 17 * j + i) := fun i hi => by
      have := g (17 * j + i) (by omega)
      rw [← Nat.add_assoc, ← Nat.add_assoc] at this
      exact this
    refine ⟨(q 0 (by omega)).trans d1, fun k hk => ⟨?_, ?_⟩⟩
    · have := q (1 + 2 * k) (by omega)
      rw [← Nat.add_assoc, ← Nat.add_assoc] at this
      exact this.trans (d2 k hk).1
    · have := q (2 + 2 * k) (by omega)
      rw [← Nat.add_assoc, ← Nat.add_assoc] at this
      exact this.trans (d2 k hk).2
theorem McT.cgS {s : Nat} {h' : zH} (hT : McT h s A) (hA : wfA A) (e : ∀ x k, inS s x k → h' x k = h x k) : McT h' s A := by
  refine hT.mv hA (fun i hi => ?_) (e _ _ ?_) (e _ _ ?_) (e _ _ ?_) (fun i hi => e _ _ ?_) (fun i hi => e _ _ ?_) (fun i hi => e _ _ ?_)
  · rw [e _ _ (by unfold inS; omega)]
  all_goals (unfold inS; omega)
/-- FringeBenchModel.copyRow -/
theorem m_cpr {o N s t z : Nat} {r : List (Option Nat)} (hc : zC S o = (100, z, r)) (hz : z ≤ 2147483647) (hs : N * s + N ≤ z) (ht : N * t + N ≤ z) (hN : N ≤ 600) (hne : s ≠ t) : ∃ h', Zx 141 0 [zR o, zI (N : Int), zI (s : Int), zI (t : Int), zN] [] S h = some (none, S, h') ∧ (∀ i, i < N → h' o (N * t + i) = h o (N * s + i)) ∧ ∀ x k, ¬ (x = o ∧ N * t ≤ k ∧ k < N * t + N) → h' x k = h x k := by
  have sep : N * s + N ≤ N * t ∨ N * t + N ≤ N * s := by
    rcases Nat.lt_or_gt_of_ne hne with q | q
    · left; have := Nat.mul_le_mul_left N (show s + 1 ≤ t by omega); rw [Nat.mul_succ] at this; exact this
    · right; have := Nat.mul_le_mul_left N (show t + 1 ≤ s by omega); rw [Nat.mul_succ] at this; exact this
  have c1 : ∀ k : Nat, (N : Int) * (s : Int) + (k : Int) = ((N * s + k : Nat) : Int) := fun k => by rw [Int.natCast_add, Int.natCast_mul]
  have c2 : ∀ k : Nat, (N : Int) * (t : Int) + (k : Int) = ((N * t + k : Nat) : Int) := fun k => by rw [Int.natCast_add, Int.natCast_mul]
  generalize hps : N * s = ps at *
  generalize hpt : N * t = pt at *
  obtain ⟨h1, e1, i1, f1⟩ := z_inv (N := N) (X := fun k (u : zH) => Zx 141 2 [zR o, zI (N : Int), zI (s : Int), zI (t : Int), zI (k : Int)] [] S u) (I := fun k u => (∀ i, i < k → u o (pt + i) = h o (ps + i)) ∧ ∀ x i, ¬ (x = o ∧ pt ≤ i ∧ i < pt + N) → u x i = h x i) (s := h) ⟨fun i q => absurd q (Nat.not_lt_zero i), fun _ _ _ => rfl⟩ (fun k u hk Iu => by
    have st := b141_2 (S := S) (h := u) (l0 := o) (l1 := (N : Int)) (l2 := (s : Int)) (l3 := (t : Int)) (l4 := (k : Int)) hc hz (by rw [c1]; intros; omega) (by rw [c1]; intros; omega) (by rw [c2]; intros; omega) (by rw [c2]; intros; omega)
    rw [c1, c2, Int.toNat_natCast, Int.toNat_natCast, zw_nat (n := N) (by omega), zw_nat (n := k) (by omega), if_neg (by omega)] at st
    refine ⟨_, st, fun i hi => ?_, fun x i q => by rw [zu_off (by omega)]; exact Iu.2 x i q⟩
    by_cases c : i = k
    · rw [c, zu_eq]
      exact Iu.2 _ _ (by omega)
    · rw [zu_off (by omega)]
      exact Iu.1 i (by omega))
  refine ⟨h1, ?_, i1, f1⟩
  rw [b141_0 hc hz]
  refine e1.trans ?_
  show Zx 141 2 _ _ _ _ = _
  rw [b141_2 hc hz (fun q => absurd (Int.le_refl _) q) (fun q => absurd (Int.le_refl _) q) (fun q => absurd (Int.le_refl _) q) (fun q => absurd (Int.le_refl _) q), if_pos (Int.le_refl _)]
end CPX
