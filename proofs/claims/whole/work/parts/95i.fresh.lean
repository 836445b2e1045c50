/-! READING: a fresh picture, a fresh test, nothing mentioned -/
section FRS
variable {n : Nat} {S : zS} {h : zH}
/-- a picture of which nothing is told -/
def D0 : pD := (3, 3, 1, fun _ => 0, fun _ => 1, fun _ => -1, fun _ => false)
theorem s_clb {o z : Nat} {r : List (Option Nat)} (hc : zC S o = (102, z, r)) (hz : z ≤ 1000) : ∃ h', Zx 103 0 [zR o, zN] [] S h = some (none, S, h') ∧ (∀ k, k < z → zb1 (h' o k) = 0) ∧ ∀ x k, x ≠ o → h' x k = h x k := by
  obtain ⟨h1, e1, i1, f1⟩ := z_inv (N := z) (X := fun k (u : zH) => Zx 103 2 [zR o, zI (k : Int)] [] S u) (I := fun k u => (∀ i, i < k → zb1 (u o i) = 0) ∧ ∀ x i, x ≠ o → u x i = h x i) (s := h) ⟨fun i q => absurd q (Nat.not_lt_zero i), fun _ _ _ => rfl⟩ (fun k u hk Iu => by
    have st := b103_2 (S := S) (h := u) (l0 := o) (l1 := (k : Int)) hc (by omega) (by intros; omega) (by intros; omega)
    rw [zw_nat (n := k) (by omega), zw_nat (n := z) (by omega), if_neg (by omega), Int.toNat_natCast] at st
    refine ⟨_, st, fun i hi => ?_, fun x i q => by rw [zu_off (by omega)]; exact Iu.2 x i q⟩
    by_cases c : i = k
    · rw [c, zu_eq]; decide
    · rw [zu_off (by omega)]; exact Iu.1 i (by omega))
  refine ⟨h1, ?_, i1, f1⟩
  rw [b103_0 hc (by omega)]
  refine e1.trans ?_
  show Zx 103 2 _ _ _ _ = _
  rw [b103_2 hc (by omega) (fun q => absurd (Int.le_refl _) q) (fun q => absurd (Int.le_refl _) q), if_pos (Int.le_refl _)]
theorem s_fl {o z : Nat} {r : List (Option Nat)} {v : Int} (hc : zC S o = (100, z, r)) (hz : z ≤ 1000) : ∃ h', Zx 242 0 [zR o, zI v, zN, zN] [] S h = some (none, S, h') ∧ (∀ k, k < z → h' o k = v) ∧ ∀ x k, x ≠ o → h' x k = h x k :=
  ⟨_, s_fill hc (by omega), fun k hk => by show (if o = o ∧ k < z then v else _) = v; rw [if_pos ⟨rfl, hk⟩], fun x k q => by show (if x = o ∧ k < z then v else h x k) = h x k; rw [if_neg (fun y => q y.1)]⟩
/-- Picture.clear -/
theorem c_pcl : ∃ h', Zx 28 0 [zR 106] [] (Z0 n) h = some (none, Z0 n, h') ∧ PiD h' 106 D0 ∧ ∀ x k, (x < 106 ∨ 110 < x) → h' x k = h x k := by
  have hL : LX2 (Z0 n) 106 := ⟨rfl, rfl, rfl, rfl, rfl⟩
  obtain ⟨h1, e1, i1, f1⟩ := s_fl (S := Z0 n) (h := zu (zu (zu h 106 0 3) 106 1 3) 106 2 1) (o := 107) (z := 100) (r := []) (v := 0) rfl (by omega)
  obtain ⟨h2, e2, i2, f2⟩ := s_fl (S := Z0 n) (h := h1) (o := 108) (z := 25) (r := []) (v := 1) rfl (by omega)
  obtain ⟨h3, e3, i3, f3⟩ := s_fl (S := Z0 n) (h := h2) (o := 109) (z := 25) (r := []) (v := -1) rfl (by omega)
  obtain ⟨h4, e4, i4, f4⟩ := s_clb (S := Z0 n) (h := h3) (o := 110) (z := 25) (r := []) rfl (by omega)
  refine ⟨h4, ?_, ⟨?_, ?_, ?_, fun k hk => ?_, fun k hk => ⟨?_, ?_, ?_⟩⟩, fun x k q => ?_⟩
  · rw [b28_0 hL, b28_12 hL rfl (by omega) e1, b28_16 hL rfl (by omega) e2, b28_20 hL rfl (by omega) e3, b28_23 rfl (by omega) e4]
  · rw [f4 _ _ (by omega), f3 _ _ (by omega), f2 _ _ (by omega), f1 _ _ (by omega), zu_off (by omega), zu_off (by omega), zu_eq]; rfl
  · rw [f4 _ _ (by omega), f3 _ _ (by omega), f2 _ _ (by omega), f1 _ _ (by omega), zu_off (by omega), zu_eq]; rfl
  · rw [f4 _ _ (by omega), f3 _ _ (by omega), f2 _ _ (by omega), f1 _ _ (by omega), zu_eq]; rfl
  · rw [f4 _ _ (by omega), f3 _ _ (by omega), f2 _ _ (by omega)]; exact i1 k hk
  · rw [f4 _ _ (by omega), f3 _ _ (by omega)]; exact i2 k hk
  · rw [f4 _ _ (by omega)]; exact i3 k hk
  · rw [i4 k hk]; rfl
  · rw [f4 _ _ (by omega), f3 _ _ (by omega), f2 _ _ (by omega), f1 _ _ (by omega), zu_off (by omega), zu_off (by omega), zu_off (by omega)]
/-- a picture, a test in the reference's row -/
def RoP (h : zH) (D : pD) : Prop := h 210 0 = (dW D : Int) ∧ h 210 1 = (dH D : Int) ∧ h 210 2 = dL D ∧ (∀ k, k < 100 → h 210 (3 + k) = dS D k) ∧ ∀ k, k < 25 → h 210 (103 + k) = dG D k ∧ h 210 (128 + k) = dP D k ∧ h 210 (153 + k) = if dO D k = true then 1 else 0
def RoT (h : zH) (t : tD) : Prop := h 210 0 = (t.1 : Int) ∧ ∀ k, k < t.1 → h 210 (1 + 2 * k) = t.2.1 k ∧ h 210 (2 + 2 * k) = t.2.2 k
/-- FringeBenchModel.clear -/
theorem m_clr {t : Int} (ht : t = 0 ∨ t = 1) : ∃ h', Zx 158 0 [zR 202, zI t, zN] [] (Z0 n) h = some (none, Z0 n, h') ∧ (t = 0 → RoP h' D0) ∧ (t = 1 → h' 210 0 = 0) ∧ h' 202 19 = -1 ∧ ∀ x k, x ≠ 210 → ¬ (x = 202 ∧ k = 19) → h' x k = h x k := by
  obtain ⟨h1, e1, i1, f1⟩ := z_inv (N := 178) (X := fun k (u : zH) => Zx 158 2 [zR 202, zI t, zI (k : Int)] [] (Z0 n) u) (I := fun k u => (∀ i, i < k → u 210 i = 0) ∧ ∀ x i, x ≠ 210 → u x i = h x i) (s := h) ⟨fun i q => absurd q (Nat.not_lt_zero i), fun _ _ _ => rfl⟩ (fun k u hk Iu => by
    have st := b158_2 (n := n) (h := u) (l1 := t) (l2 := (k : Int)) (by intros; omega) (by intros; omega)
    rw [zw_nat (n := k) (by omega), if_neg (by omega), Int.toNat_natCast] at st
    refine ⟨_, st, fun i hi => ?_, fun x i q => by rw [zu_off (by omega)]; exact Iu.2 x i q⟩
    by_cases c : i = k
    · rw [c, zu_eq]
    · rw [zu_off (by omega)]; exact Iu.1 i (by omega))
  have st : Zx 158 0 [zR 202, zI t, zN] [] (Z0 n) h = if ¬ zw t = 0 then Zx 158 53 [zN, zN, zN] [] (Z0 n) (zu h1 202 19 (-1)) else Zx 158 34 [zR 202, zN, zI 0] [] (Z0 n) (zu (zu (zu (zu h1 202 19 (-1)) 210 0 3) 210 1 3) 210 2 1) := by
    rw [b158_0]
    refine e1.trans ?_
    show Zx 158 2 _ _ _ _ = _
    rw [b158_2 (fun q => absurd (by decide) q) (fun q => absurd (by decide) q), if_pos (by decide)]
  rw [zw_id (z := t) (by omega) (by omega)] at st
  rcases ht with e | e
  · rw [if_neg (fun z => z e)] at st
    obtain ⟨h2, e2, i2, f2⟩ := z_inv (N := 25) (X := fun k (u : zH) => Zx 158 34 [zR 202, zN, zI (k : Int)] [] (Z0 n) u) (I := fun k u => (∀ i, i < k → u 210 (103 + i) = 1 ∧ u 210 (128 + i) = -1) ∧ ∀ x i, ¬ (x = 210 ∧ 103 ≤ i ∧ i < 153) → u x i = (zu (zu (zu (zu h1 202 19 (-1)) 210 0 3) 210 1 3) 210 2 1) x i) (s := zu (zu (zu (zu h1 202 19 (-1)) 210 0 3) 210 1 3) 210 2 1) ⟨fun i q => absurd q (Nat.not_lt_zero i), fun _ _ _ => rfl⟩ (fun k u hk Iu => by
      have st := b158_34 (n := n) (h := u) (l2 := (k : Int)) (by intros; omega) (by intros; omega) (by intros; omega) (by intros; omega)
      rw [zw_nat (n := k) (by omega), if_neg (by omega), show ((103 : Int) + (k : Int)).toNat = 103 + k by omega, show ((128 : Int) + (k : Int)).toNat = 128 + k by omega] at st
      refine ⟨_, st, fun i hi => ?_, fun x i q => by rw [zu_off (by omega), zu_off (by omega)]; exact Iu.2 x i q⟩
      by_cases c : i = k
      · rw [c, zu_off (by omega), zu_eq, zu_eq]; exact ⟨rfl, rfl⟩
      · rw [zu_off (by omega), zu_off (by omega), zu_off (by omega), zu_off (by omega)]; exact Iu.1 i (by omega))
    have fin : Zx 158 34 [zR 202, zN, zI ((25 : Nat) : Int)] [] (Z0 n) h2 = some (none, Z0 n, h2) := by
      rw [b158_34 (fun q => absurd (by decide) q) (fun q => absurd (by decide) q) (fun q => absurd (by decide) q) (fun q => absurd (by decide) q), if_pos (by decide), b158_53]
    refine ⟨h2, st.trans (Eq.trans e2 fin), fun _ => ⟨?_, ?_, ?_, fun k hk => ?_, fun k hk => ⟨(i2 k hk).1, (i2 k hk).2, ?_⟩⟩, fun z => absurd z (by omega), ?_, fun x k q1 q2 => ?_⟩
    · rw [f2 _ _ (by omega), zu_off (by omega), zu_off (by omega), zu_eq]; rfl
    · rw [f2 _ _ (by omega), zu_off (by omega), zu_eq]; rfl
    · rw [f2 _ _ (by omega), zu_eq]; rfl
    · rw [f2 _ _ (by omega), zu_off (by omega), zu_off (by omega), zu_off (by omega), zu_off (by omega)]; exact i1 _ (by omega)
    · rw [f2 _ _ (by omega), zu_off (by omega), zu_off (by omega), zu_off (by omega), zu_off (by omega)]; exact i1 _ (by omega)
    · rw [f2 _ _ (by omega), zu_off (by omega), zu_off (by omega), zu_off (by omega), zu_eq]
    · rw [f2 _ _ (by omega), zu_off (by omega), zu_off (by omega), zu_off (by omega), zu_off (by omega)]; exact f1 x k q1
  · rw [if_pos (by omega), b158_53] at st
    refine ⟨_, st, fun z => absurd z (by omega), fun _ => ?_, zu_eq, fun x k q1 q2 => by rw [zu_off (by omega)]; exact f1 x k q1⟩
    rw [zu_off (by omega)]; exact i1 0 (by omega)
end FRS
