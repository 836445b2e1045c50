/-! THE STATE OF BOTH, and images of it: image, again -/
section IMG
variable {n : Nat} {h : zH} {A : aS}
/-- FringeBenchModel.copyAll -/
theorem m_cpA {s t : Nat} (hs : s ≤ 3) (ht : t ≤ 3) (hne : s ≠ t) : ∃ h', Zx 142 0 [zR 202, zI (s : Int), zI (t : Int), zN] [] (Z0 n) h = some (none, Z0 n, h') ∧ (∀ A, wfA A → McT h s A → McT h' t A) ∧ ∀ x k, ¬ inS t x k → h' x k = h x k := by
  obtain ⟨h1, e1, i1, f1⟩ := z_inv (N := 600) (X := fun k (u : zH) => Zx 142 2 [zR 202, zI (s : Int), zI (t : Int), zI (k : Int)] [] (Z0 n) u) (I := fun k u => (∀ i, i < k → zb8 (u 203 (600 * t + i)) = zb8 (h 203 (600 * s + i))) ∧ ∀ x i, ¬ (x = 203 ∧ 600 * t ≤ i ∧ i < 600 * t + 600) → u x i = h x i) (s := h) ⟨fun i q => absurd q (Nat.not_lt_zero i), fun _ _ _ => rfl⟩ (fun k u hk Iu => by
    have st := b142_2 (n := n) (h := u) (l1 := (s : Int)) (l2 := (t : Int)) (l3 := (k : Int)) (by intros; omega) (by intros; omega) (by intros; omega) (by intros; omega)
    rw [show ((600 * (s : Int)) + (k : Int)).toNat = 600 * s + k by omega, show ((600 * (t : Int)) + (k : Int)).toNat = 600 * t + k by omega, zw_nat (n := k) (by omega), if_neg (by omega)] at st
    refine ⟨_, st, fun i hi => ?_, fun x i q => by rw [zu_off (by omega)]; exact Iu.2 x i q⟩
    by_cases c : i = k
    · rw [c, zu_eq, zb8_zb8, Iu.2 _ _ (by omega)]
    · rw [zu_off (by omega)]
      exact Iu.1 i (by omega))
  have e28 : Zx 142 0 [zR 202, zI (s : Int), zI (t : Int), zN] [] (Z0 n) h = Zx 142 28 [zR 202, zI (s : Int), zI (t : Int), zN] [zI (t : Int), zI (s : Int), zI 1, zR 204] (Z0 n) h1 := by
    rw [b142_0]
    refine e1.trans ?_
    show Zx 142 2 _ _ _ _ = _
    rw [b142_2 (fun q => absurd (by decide) q) (fun q => absurd (by decide) q) (fun q => absurd (by decide) q) (fun q => absurd (by decide) q), if_pos (by decide)]
  obtain ⟨h2, e2, i2, f2⟩ := m_cpr (N := 1) (s := s) (t := t) (h := h1) (zcl204 n) (by omega) (by omega) (by omega) (by omega) hne
  obtain ⟨h3, e3, i3, f3⟩ := m_cpr (N := 1) (s := s) (t := t) (h := h2) (zcl205 n) (by omega) (by omega) (by omega) (by omega) hne
  obtain ⟨h4, e4, i4, f4⟩ := m_cpr (N := 1) (s := s) (t := t) (h := h3) (zcl206 n) (by omega) (by omega) (by omega) (by omega) hne
  obtain ⟨h5, e5, i5, f5⟩ := m_cpr (N := 2) (s := s) (t := t) (h := h4) (zcl207 n) (by omega) (by omega) (by omega) (by omega) hne
  obtain ⟨h6, e6, i6, f6⟩ := m_cpr (N := 534) (s := s) (t := t) (h := h5) (zcl208 n) (by omega) (by omega) (by omega) (by omega) hne
  obtain ⟨h7, e7, i7, f7⟩ := m_cpr (N := 34) (s := s) (t := t) (h := h6) (zcl209 n) (by omega) (by omega) (by omega) (by omega) hne
  have e2 : Zx 141 0 [zR 204, zI 1, zI (s : Int), zI (t : Int), zN] [] (Z0 n) h1 = some (none, Z0 n, h2) := e2
  have e3 : Zx 141 0 [zR 205, zI 1, zI (s : Int), zI (t : Int), zN] [] (Z0 n) h2 = some (none, Z0 n, h3) := e3
  have e4 : Zx 141 0 [zR 206, zI 1, zI (s : Int), zI (t : Int), zN] [] (Z0 n) h3 = some (none, Z0 n, h4) := e4
  have e5 : Zx 141 0 [zR 207, zI 2, zI (s : Int), zI (t : Int), zN] [] (Z0 n) h4 = some (none, Z0 n, h5) := e5
  have e6 : Zx 141 0 [zR 208, zI 534, zI (s : Int), zI (t : Int), zN] [] (Z0 n) h5 = some (none, Z0 n, h6) := e6
  have e7 : Zx 141 0 [zR 209, zI 34, zI (s : Int), zI (t : Int), zN] [] (Z0 n) h6 = some (none, Z0 n, h7) := e7
  refine ⟨h7, ?_, fun A hA hM => ?_, fun x k q => ?_⟩
  · rw [e28, b142_28 (zcl204 n) (by omega) e2, b142_34 (zcl205 n) (by omega) e3, b142_40 (zcl206 n) (by omega) e4, b142_46 (zcl207 n) (by omega) e5, b142_52 (zcl208 n) (by omega) e6, b142_58 (zcl209 n) (by omega) e7]
  · refine hM.mv hA (fun i hi => ?_) ?_ ?_ ?_ (fun i hi => ?_) (fun i hi => ?_) (fun i hi => ?_)
    · rw [f7 _ _ (by omega), f6 _ _ (by omega), f5 _ _ (by omega), f4 _ _ (by omega), f3 _ _ (by omega), f2 _ _ (by omega)]
      exact i1 i hi
    · have := i2 0 (by omega)
      rw [Nat.one_mul, Nat.one_mul, Nat.add_zero, Nat.add_zero] at this
      rw [f7 _ _ (by omega), f6 _ _ (by omega), f5 _ _ (by omega), f4 _ _ (by omega), f3 _ _ (by omega), this, f1 _ _ (by omega)]
    · have := i3 0 (by omega)
      rw [Nat.one_mul, Nat.one_mul, Nat.add_zero, Nat.add_zero] at this
      rw [f7 _ _ (by omega), f6 _ _ (by omega), f5 _ _ (by omega), f4 _ _ (by omega), this, f2 _ _ (by omega), f1 _ _ (by omega)]
    · have := i4 0 (by omega)
      rw [Nat.one_mul, Nat.one_mul, Nat.add_zero, Nat.add_zero] at this
      rw [f7 _ _ (by omega), f6 _ _ (by omega), f5 _ _ (by omega), this, f3 _ _ (by omega), f2 _ _ (by omega), f1 _ _ (by omega)]
    · rw [f7 _ _ (by omega), f6 _ _ (by omega), i5 i hi, f4 _ _ (by omega), f3 _ _ (by omega), f2 _ _ (by omega), f1 _ _ (by omega)]
    · rw [f7 _ _ (by omega), i6 i hi, f5 _ _ (by omega), f4 _ _ (by omega), f3 _ _ (by omega), f2 _ _ (by omega), f1 _ _ (by omega)]
    · rw [i7 i hi, f6 _ _ (by omega), f5 _ _ (by omega), f4 _ _ (by omega), f3 _ _ (by omega), f2 _ _ (by omega), f1 _ _ (by omega)]
  · unfold inS at q
    rw [f7 _ _ (by omega), f6 _ _ (by omega), f5 _ _ (by omega), f4 _ _ (by omega), f3 _ _ (by omega), f2 _ _ (by omega), f1 _ _ (by omega)]
/-- an image, in both -/
def Img (h : zH) (i : Nat) : Option aS → Prop
  | none => zb1 (h 103 i) = 0 ∧ zb1 (h 237 i) = 0
  | some B => wfA B ∧ (zb1 (h 103 i) = 1 ∧ ClT h (28 + 25 * i) B) ∧ zb1 (h 237 i) = 1 ∧ McT h (i + 1) B
/-- both hold the same -/
def Sta (h : zH) (A : aS) (I : Nat → Option aS) : Prop := wfA A ∧ ClS h A ∧ McT h 0 A ∧ ∀ i, i < 3 → Img h i (I i)
theorem Img.cg {h' : zH} {i : Nat} {o : Option aS} (hi : i < 3) (hI : Img h i o) (e : ∀ x k, ((28 ≤ x ∧ x ≤ 103) ∨ x = 237 ∨ inS (i + 1) x k) → h' x k = h x k) : Img h' i o := by
  cases o with
  | none => exact ⟨by rw [e _ _ (by omega)]; exact hI.1, by rw [e _ _ (by omega)]; exact hI.2⟩
  | some B =>
    obtain ⟨a, ⟨b, c⟩, d, f⟩ := hI
    exact ⟨a, ⟨by rw [e _ _ (by omega)]; exact b, c.cg a (fun x k q1 q2 => e x k (by omega))⟩, by rw [e _ _ (by omega)]; exact d, f.cgS a (fun x k q => e x k (Or.inr (Or.inr q)))⟩
theorem frY_in {h' : zH} {i x k : Nat} (f : frY h' h) (hi : inS (i + 1) x k) : h' x k = h x k := by
  refine f x k ?_
  unfold inS at hi
  omega
/-- one call of each, and both hold the same again -/
def OpS (n m m' : Nat) (L L' : List zV) : Prop := ∀ h A I, Sta h A I → ∃ v h1 h2 B J, Zx m 0 L [] (Z0 n) h = some (some (zI v), Z0 n, h1) ∧ Zx m' 0 L' [] (Z0 n) h1 = some (some (zI v), Z0 n, h2) ∧ Sta h2 B J ∧ (∀ k, h1 0 k = h 0 k) ∧ ∀ k, h2 0 k = h 0 k
def OpSL (n m m' : Nat) (L L' : List zV) : Prop := ∀ h A I, Sta h A I → ∃ v h1 h2 B J, Zx m 0 L [] (Z0 n) h = some (some (zL v), Z0 n, h1) ∧ Zx m' 0 L' [] (Z0 n) h1 = some (some (zL v), Z0 n, h2) ∧ Sta h2 B J ∧ (∀ k, h1 0 k = h 0 k) ∧ ∀ k, h2 0 k = h 0 k
theorem OpW.S {m m' : Nat} {L L' : List zV} (H : ∀ A, wfA A → OpW n m m' L L' A) : OpS n m m' L L' := fun h A I hS => by
  obtain ⟨hA, S, M, II⟩ := hS
  obtain ⟨v, B, hB, a, b⟩ := H A hA
  obtain ⟨h1, e1, S1, f1⟩ := a h S
  have M1 : McT h1 0 A := M.cg (fun x k q1 q2 => f1 x k (by omega))
  obtain ⟨h2, e2, M2, f2⟩ := b h1 M1
  refine ⟨v, h1, h2, B, I, e1, e2, ⟨hB, S1.cg hB (fun x k q => f2 x k (by omega)), M2, fun i hi => ?_⟩, fun k => f1 0 k (by omega), fun k => (f2 0 k (by omega)).trans (f1 0 k (by omega))⟩
  refine (II i hi).cg hi (fun x k q => ?_)
  rcases q with q | q | q
  · rw [f2 x k (by omega)]; exact f1 x k (by omega)
  · rw [f2 x k (by omega)]; exact f1 x k (by omega)
  · rw [frY_in f2 q]
    unfold inS at q
    exact f1 x k (by omega)
theorem OpI.S {m m' : Nat} {L L' : List zV} (H : ∀ A, wfA A → OpI n m m' L L' A) : OpS n m m' L L' := OpW.S (fun A hA => by
  obtain ⟨v, a, b⟩ := H A hA
  refine ⟨v, A, hA, fun h hS => ?_, fun g hM => ?_⟩
  · obtain ⟨h', e, S, f⟩ := a h hS
    exact ⟨h', e, S, f.X⟩
  · obtain ⟨g', e, f⟩ := b g hM
    exact ⟨g', e, hM.cg (fun x k q1 q2 => f x k (by omega)), f.Y⟩)
theorem OpL.S {m m' : Nat} {L L' : List zV} (H : ∀ A, wfA A → OpL n m m' L L' A) : OpSL n m m' L L' := fun h A I hS => by
  obtain ⟨hA, S, M, II⟩ := hS
  obtain ⟨v, a, b⟩ := H A hA
  obtain ⟨h1, e1, S1, f1⟩ := a h S
  have M1 : McT h1 0 A := M.cg (fun x k q1 q2 => f1 x k (by omega))
  obtain ⟨h2, e2, f2⟩ := b h1 M1
  refine ⟨v, h1, h2, A, I, e1, e2, ⟨hA, S1.cg hA (fun x k q => f2 x k (by omega)), M1.cg (fun x k q1 q2 => f2 x k (by omega)), fun i hi => ?_⟩, fun k => f1 0 k (by omega), fun k => (f2 0 k (by omega)).trans (f1 0 k (by omega))⟩
  refine (II i hi).cg hi (fun x k q => ?_)
  have q' : (28 ≤ x ∧ x ≤ 103) ∨ x = 237 ∨ (203 ≤ x ∧ x ≤ 209) := by
    rcases q with q | q | q
    · exact Or.inl q
    · exact Or.inr (Or.inl q)
    · unfold inS at q; omega
  rw [f2 x k (by omega)]
  exact f1 x k (by omega)
theorem tab3 {i : Nat} (hi : i < 3) : [some 28, some 53, some 78].getD ((i : Int)).toNat none = some (28 + 25 * i) := by
  rcases (by omega : i = 0 ∨ i = 1 ∨ i = 2) with e | e | e <;> subst e <;> rfl
theorem LX7_i {i : Nat} (hi : i < 3) : LX7 (Z0 n) (28 + 25 * i) := by
  rcases (by omega : i = 0 ∨ i = 1 ∨ i = 2) with e | e | e <;> subst e
  · exact LX7_28 n
  · exact LX7_53 n
  · exact LX7_78 n
/-- image -/
theorem op_image {i : Int} (hi : zint i) : OpS n 101 236 [zR 1, zI i] [zR 202, zI i] := fun h A I hS => by
  obtain ⟨hA, S, M, II⟩ := hS
  by_cases c : 0 ≤ i ∧ i < 3
  case neg =>
    refine ⟨0, h, zu h 202 0 0, A, I, ?_, ?_, ⟨hA, S.cg hA (fun x k q => by rw [zu_off (by omega)]), McT0 M, fun j hj => (II j hj).cg hj (fun x k q => ?_)⟩, fun k => rfl, fun k => by rw [zu_off (by omega)]⟩
    · rw [b101_0 (q0 := 28) (by rw [hi.e]; intros; omega) (by rw [hi.e]; intros; omega) (by rw [hi.e]; intros; omega) (LX7_28 n), hi.e]
      by_cases d : i < 0
      · rw [if_pos d, b101_5]
      · rw [if_neg d, if_neg (by omega), b101_5]
    · rw [b236_0, b236_6 (s_inz hi ⟨by omega, by omega⟩ ⟨by omega, by omega⟩), if_neg (fun z => z (zif_pos (by omega)))]
    · rw [zu_off]
      unfold inS at q; omega
  obtain ⟨i, rfl⟩ : ∃ k : Nat, i = (k : Int) := ⟨i.toNat, by omega⟩
  have i3 : i < 3 := by omega
  obtain ⟨h1, e1, T1, f1⟩ := s_cpA (S := Z0 n) (LX7_i i3) (LX7_2 n) (by omega) hA S.1
  have fc : ∀ x k, (x < 28 + 25 * i ∨ 28 + 25 * i + 24 < x) → x ≠ 103 → (zu h1 103 i 1) x k = h x k := fun x k q1 q2 => by
    rw [zu_off (by omega)]; exact f1 x k q1
  have fd : ∀ k, k ≠ i → (zu h1 103 i 1) 103 k = h 103 k := fun k q => by
    rw [zu_off (by omega)]; exact f1 _ k (by omega)
  have M1 : McT (zu (zu h1 103 i 1) 202 0 0) 0 A := McT0 (M.cg (fun x k q1 q2 => fc x k (by omega) (by omega)))
  obtain ⟨h2, e2, T2, f2⟩ := m_cpA (n := n) (h := zu (zu h1 103 i 1) 202 0 0) (s := 0) (t := i + 1) (by omega) (by omega) (by omega)
  have e2 : Zx 142 0 [zR 202, zI 0, zI ((i + 1 : Nat) : Int), zN] [] (Z0 n) (zu (zu h1 103 i 1) 202 0 0) = some (none, Z0 n, h2) := e2
  have fm : ∀ x k, x ≠ 202 → ¬ inS (i + 1) x k → ¬ (x = 237 ∧ k = i) → (zu h2 237 i 1) x k = (zu h1 103 i 1) x k := fun x k q1 q2 q3 => by
    rw [zu_off (by omega), f2 x k q2, zu_off (by omega)]
  refine ⟨1, zu h1 103 i 1, zu h2 237 i 1, A, fun j => if j = i then some A else I j, ?_, ?_, ⟨hA, ⟨S.1.cg hA (fun x k q1 q2 => ?_), S.2.cg (fun x k q1 q2 => ?_)⟩, (M1.cgS hA (fun x k q => ?_)).cg (fun x k q1 q2 => by rw [zu_off (by omega)]), fun j hj => ?_⟩, fun k => by rw [fc _ _ (by omega) (by omega)], fun k => by rw [fm _ _ (by omega) (by unfold inS; omega) (by omega), fc _ _ (by omega) (by omega)]⟩
  · rw [b101_0 (q0 := 28 + 25 * i) (by intros; omega) (by intros; omega) (fun _ _ => tab3 i3) (LX7_i i3), hi.e, if_neg (by omega), if_pos (by omega), b101_13 (LX7_i i3) (LX7_2 n) e1 (by omega) (by omega), Int.toNat_natCast]
  · rw [b236_0, b236_6 (s_inz hi ⟨by omega, by omega⟩ ⟨by omega, by omega⟩), if_pos (zif_neg (by omega)), show (i : Int) + 1 = ((i + 1 : Nat) : Int) by omega, b236_15 e2 (by omega) (by omega), Int.toNat_natCast]
  · rw [fm x k (by omega) (by unfold inS; omega) (by omega), fc x k (by omega) (by omega)]
  · rw [fm x k (by omega) (by unfold inS; omega) (by omega), fc x k (by omega) (by omega)]
  · refine f2 x k ?_
    unfold inS at q ⊢
    omega
  · by_cases d : j = i
    · subst d
      show Img _ j (if j = j then some A else I j)
      rw [if_pos rfl]
      refine ⟨hA, ⟨?_, T1.cg hA (fun x k q1 q2 => ?_)⟩, ?_, (T2 A hA M1).cg (fun x k q1 q2 => by rw [zu_off (by omega)])⟩
      · rw [fm _ _ (by omega) (by unfold inS; omega) (by omega), zu_eq]; decide
      · rw [fm _ _ (by omega) (by unfold inS; omega) (by omega), zu_off (by omega)]
      · rw [zu_eq]; decide
    · show Img _ j (if j = i then some A else I j)
      rw [if_neg d]
      have hd := II j hj
      have g : ∀ x k, ((28 + 25 * j ≤ x ∧ x ≤ 28 + 25 * j + 24) ∨ ((x = 103 ∨ x = 237) ∧ k = j) ∨ inS (j + 1) x k) → (zu h2 237 i 1) x k = h x k := fun x k q => by
        rcases q with q | q | q
        · rw [fm _ _ (by omega) (by unfold inS; omega) (by omega)]
          refine fc x k ?_ (by omega)
          by_cases e : j < i
          · left; omega
          · right; omega
        · rw [fm _ _ (by omega) (by unfold inS; omega) (by omega)]
          rcases q.1 with e | e
          · rw [e]; exact fd k (by omega)
          · exact fc x k (by omega) (by omega)
        · have q' := q
          unfold inS at q'
          rw [fm _ _ (by omega) (by unfold inS; omega) (by omega)]
          exact fc x k (by omega) (by omega)
      cases hj' : I j with
      | none =>
        rw [hj'] at hd
        exact ⟨by rw [g _ _ (by omega)]; exact hd.1, by rw [g _ _ (by omega)]; exact hd.2⟩
      | some B =>
        rw [hj'] at hd
        obtain ⟨a, ⟨b, c'⟩, d', f'⟩ := hd
        exact ⟨a, ⟨by rw [g _ _ (by omega)]; exact b, c'.cg a (fun x k q1 q2 => g x k (by omega))⟩, by rw [g _ _ (by omega)]; exact d', f'.cgS a (fun x k q => g x k (Or.inr (Or.inr q)))⟩
/-- all caches are gone -/
theorem c_clr : ∃ h', Zx 103 0 [zR 172, zN] [] (Z0 n) h = some (none, Z0 n, h') ∧ (∀ p, p < 3 → zb1 (h' 172 p) = 0) ∧ ∀ x k, x ≠ 172 → h' x k = h x k := by
  have hc := zcl172 n
  obtain ⟨h1, e1, i1, f1⟩ := z_inv (N := 3) (X := fun k (u : zH) => Zx 103 2 [zR 172, zI (k : Int)] [] (Z0 n) u) (I := fun k u => (∀ i, i < k → zb1 (u 172 i) = 0) ∧ ∀ x i, x ≠ 172 → u x i = h x i) (s := h) ⟨fun i q => absurd q (Nat.not_lt_zero i), fun _ _ _ => rfl⟩ (fun k u hk Iu => by
    have st := b103_2 (S := Z0 n) (h := u) (l0 := 172) (l1 := (k : Int)) hc (by omega) (by intros; omega) (by intros; omega)
    rw [zw_nat (n := k) (by omega), if_neg (by rw [show zw ((3 : Nat) : Int) = 3 by decide]; omega), Int.toNat_natCast] at st
    refine ⟨_, st, fun i hi => ?_, fun x i q => by rw [zu_off (by omega)]; exact Iu.2 x i q⟩
    by_cases c : i = k
    · rw [c, zu_eq]; decide
    · rw [zu_off (by omega)]; exact Iu.1 i (by omega))
  refine ⟨h1, ?_, i1, f1⟩
  rw [b103_0 hc (by omega)]
  refine e1.trans ?_
  show Zx 103 2 _ _ _ _ = _
  rw [b103_2 hc (by omega) (fun q => absurd (by decide) q) (fun q => absurd (by decide) q), if_pos (by decide)]
/-- again -/
theorem op_again {i : Int} (hi : zint i) : OpS n 102 237 [zR 1, zI i] [zR 202, zI i] := fun h A I hS => by
  obtain ⟨hA, S, M, II⟩ := hS
  have stay : ∀ x k, ((28 ≤ x ∧ x ≤ 103) ∨ x = 237 ∨ (203 ≤ x ∧ x ≤ 209) ∨ x < 173) → (zu h 202 0 0) x k = h x k := fun x k q => zu_off (by omega)
  have st0 : Sta (zu h 202 0 0) A I := ⟨hA, S.cg hA (fun x k q => stay x k (by omega)), McT0 M, fun j hj => (II j hj).cg hj (fun x k q => stay x k (by
    rcases q with q | q | q
    · omega
    · omega
    · unfold inS at q; omega))⟩
  have hz := s_inz (S := Z0 n) (h := zu h 202 0 0) (a := i) (b := 0) (c := 2) hi ⟨by omega, by omega⟩ ⟨by omega, by omega⟩
  by_cases c : 0 ≤ i ∧ i < 3
  case neg =>
    refine ⟨0, h, zu h 202 0 0, A, I, ?_, ?_, st0, fun k => rfl, fun k => by rw [zu_off (by omega)]⟩
    · rw [b102_0 (q0 := 28) (by rw [hi.e]; intros; omega) (by rw [hi.e]; intros; omega) (by rw [hi.e]; intros; omega) (by rw [hi.e]; intros; omega) (by rw [hi.e]; intros; omega) (LX7_28 n), hi.e]
      by_cases d : i < 0
      · rw [if_pos d, b102_10]
      · rw [if_neg d, if_pos (by omega), b102_10]
    · rw [b237_0, b237_6 hz (fun q => absurd (zif_pos (by omega)) q) (fun q => absurd (zif_pos (by omega)) q), if_pos (zif_pos (by omega)), b237_13]
  obtain ⟨i, rfl⟩ : ∃ k : Nat, i = (k : Int) := ⟨i.toNat, by omega⟩
  have i3 : i < 3 := by omega
  have cl := b102_0 (n := n) (h := h) (l1 := (i : Int)) (q0 := 28 + 25 * i) (by intros; omega) (by intros; omega) (by intros; omega) (by intros; omega) (fun _ _ _ => tab3 i3) (LX7_i i3)
  rw [hi.e, if_neg (by omega), if_neg (by omega), Int.toNat_natCast] at cl
  have mo := b237_6 (n := n) (h := zu h 202 0 0) (l1 := (i : Int)) hz (by intros; omega) (by intros; omega)
  rw [if_neg (zif_neg (by omega)), Int.toNat_natCast, zu_off (by omega)] at mo
  have hI := II i i3
  cases hj' : I i with
  | none =>
    rw [hj'] at hI
    rw [hI.1, if_neg (fun z => z zw0), b102_10] at cl
    rw [hI.2, if_neg (fun z => z zw0), b237_13] at mo
    exact ⟨0, h, zu h 202 0 0, A, I, cl, by rw [b237_0]; exact mo, st0, fun k => rfl, fun k => by rw [zu_off (by omega)]⟩
  | some B =>
    rw [hj'] at hI
    obtain ⟨hB, ⟨b1, b2⟩, b3, b4⟩ := hI
    rw [b1, if_pos (show ¬ zw 1 = 0 by decide)] at cl
    rw [b3, if_pos (show ¬ zw 1 = 0 by decide)] at mo
    obtain ⟨h1, e1, T1, f1⟩ := s_cpA (S := Z0 n) (LX7_2 n) (LX7_i i3) (by omega) hB b2
    obtain ⟨h2, e2, C2, f2⟩ := c_clr (n := n) (h := h1)
    rw [b102_18 (LX7_2 n) (LX7_i i3) e1, b102_21 (zcl172 n) (by omega) e2] at cl
    have fc : ∀ x k, (x < 2 ∨ 26 < x) → x ≠ 172 → h2 x k = h x k := fun x k q1 q2 => by
      rw [f2 x k q2]; exact f1 x k (by omega)
    have b4' : McT (zu h2 202 0 0) (i + 1) B := (b4.cg (fun x k q1 q2 => fc x k (by omega) (by omega))).cg (fun x k q1 q2 => by rw [zu_off (by omega)])
    obtain ⟨h3, e3, T3, f3⟩ := m_cpA (n := n) (h := zu h2 202 0 0) (s := i + 1) (t := 0) (by omega) (by omega) (by omega)
    have e3 : Zx 142 0 [zR 202, zI ((i + 1 : Nat) : Int), zI 0, zN] [] (Z0 n) (zu h2 202 0 0) = some (none, Z0 n, h3) := e3
    have hz2 := s_inz (S := Z0 n) (h := zu h2 202 0 0) (a := (i : Int)) (b := 0) (c := 2) hi ⟨by omega, by omega⟩ ⟨by omega, by omega⟩
    have mo2 := b237_6 (n := n) (h := zu h2 202 0 0) (l1 := (i : Int)) hz2 (by intros; omega) (by intros; omega)
    rw [if_neg (zif_neg (by omega)), Int.toNat_natCast, zu_off (by omega), fc _ _ (by omega) (by omega), b3, if_pos (show ¬ zw 1 = 0 by decide), show (i : Int) + 1 = ((i + 1 : Nat) : Int) by omega, b237_20 e3] at mo2
    refine ⟨1, h2, h3, B, I, cl, by rw [b237_0]; exact mo2, ⟨hB, ⟨T1.cg hB (fun x k q1 q2 => ?_), fun p hp => Or.inl ?_⟩, T3 B hB b4', fun j hj => (II j hj).cg hj (fun x k q => ?_)⟩, fun k => fc _ _ (by omega) (by omega), fun k => by rw [f3 _ _ (by unfold inS; omega), zu_off (by omega)]; exact fc _ _ (by omega) (by omega)⟩
    · rw [f3 _ _ (by unfold inS; omega), zu_off (by omega)]; exact f2 x k (by omega)
    · rw [f3 _ _ (by unfold inS; omega), zu_off (by omega)]; exact C2 p hp
    · rcases q with q | q | q
      · rw [f3 _ _ (by unfold inS; omega), zu_off (by omega)]; exact fc _ _ (by omega) (by omega)
      · rw [f3 _ _ (by unfold inS; omega), zu_off (by omega)]; exact fc _ _ (by omega) (by omega)
      · unfold inS at q
        rw [f3 _ _ (by unfold inS; omega), zu_off (by omega)]; exact fc _ _ (by omega) (by omega)
end IMG
