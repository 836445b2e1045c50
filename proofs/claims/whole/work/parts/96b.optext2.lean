/-! text: the reference's; both sides -/
section OTY
variable {n : Nat} {h : zH} {A : aS}
/-- the reference up to the end of reading -/
theorem m_tx0 {t p : Int} (hM : McT h 0 A) (hA : wfA A) (ht : zint t) (hp : zint p) : ∃ g, Zx 160 0 [zR 202, zI t, zI p, zN, zN] [] (Z0 n) h = (if plcO (aNp A) (aNt A) t p = -2 then some (some (zI (-2)), Z0 n, g) else Zx 160 55 [zR 202, zI t, zI p, zN, zN] [] (Z0 n) g) ∧ g 204 0 = 0 ∧ g 205 0 = 0 ∧ g 206 0 = -1 ∧ RTp g (byc A) (aLen A) ∧ ∀ x k, ¬ (x = 202 ∧ (k = 0 ∨ k = 9)) → ¬ ((x = 204 ∨ x = 205 ∨ x = 206) ∧ k = 0) → g x k = h x k := by
  have np := hA.2.1
  have nt := hA.2.2.2.1
  have m1 : h 204 0 = ((aLen A : Nat) : Int) := hM.1
  have e9 : zu h 202 0 0 204 0 = ((aLen A : Nat) : Int) := by rw [zu_off (by omega)]; exact m1
  have fr : ∀ x k, ¬ (x = 202 ∧ (k = 0 ∨ k = 9)) → ¬ ((x = 204 ∨ x = 205 ∨ x = 206) ∧ k = 0) → zu (zu (zu (zu (zu h 202 0 0) 202 9 ((aLen A : Nat) : Int)) 204 0 0) 205 0 0) 206 0 (-1) x k = h x k := fun x k q1 q2 => by rw [zu_off (by omega), zu_off (by omega), zu_off (by omega), zu_off (by omega), zu_off (by omega)]
  have pc := m_plc (n := n) (h := zu (zu (zu (zu (zu h 202 0 0) 202 9 ((aLen A : Nat) : Int)) 204 0 0) 205 0 0) 206 0 (-1)) (np := aNp A) (nt := aNt A) (t := t) (p := p) (by rw [fr _ _ (by omega) (by omega)]; exact hM.2.2.1) (by rw [fr _ _ (by omega) (by omega)]; exact hM.2.2.2.2.1) np nt ht hp
  refine ⟨_, ?_, by rw [zu_off (by omega), zu_off (by omega), zu_eq], by rw [zu_off (by omega), zu_eq], zu_eq, ⟨by rw [zu_off (by omega), zu_off (by omega), zu_off (by omega), zu_eq], fun k hk => ?_⟩, fr⟩
  · rw [b160_0, e9]
    exact pc
  · rw [fr _ _ (by omega) (by omega)]
    have := hM.2.1 k hk
    rw [show 600 * 0 + k = k by omega] at this
    unfold byc
    rw [← this, zb8_zb8]
/-- FringeBenchModel.text, of a picture -/
theorem m_txP {p : Int} {k : Nat} (hM : McT h 0 A) (hA : wfA A) (hp : zint p) (hk : plcO (aNp A) (aNt A) 0 p = (k : Int)) (k3 : k < 3) (hpk : (p = -1 ∧ k = aNp A) ∨ (p ≠ -1 ∧ p = (k : Int) ∧ k < aNp A)) : ∃ h', Zx 160 0 [zR 202, zI 0, zI p, zN, zN] [] (Z0 n) h = some (some (zI (if (txR A 0).1 = 0 then (k : Int) else -1)), Z0 n, h') ∧ McT h' 0 (if (txR A 0).1 = 0 then txP A k (rD (txE A 0).2.2) (txR A 0).1 (txR A 0).2 else txF A (txR A 0).1 (txR A 0).2) ∧ frZ h' h := by
  have np := hA.2.1
  obtain ⟨i1, i2, i3⟩ := txR_in (t := 0) hA
  obtain ⟨g, g1, g2, g3, g4, gT, gf⟩ := m_tx0 (n := n) (t := 0) (p := p) hM hA ⟨by omega, by omega⟩ hp
  rw [hk, if_neg (by omega)] at g1
  obtain ⟨u, u1, u2, u3, u4, uf⟩ := m_rea (n := n) (h := g) (c := byc A) (m := aLen A) (t := 0) (Or.inl rfl) hA.1 byc_in gT
  have u1' : Zx 159 0 [zR 202, zI 0, zN, zN, zN, zN] [] (Z0 n) g = some (some (zI (if (txR A 0).1 = 0 then 1 else 0)), Z0 n, u) := u1
  have u2' : u 205 0 = (txR A 0).1 := u2
  have u3' : u 206 0 = (txR A 0).2 := u3
  have u4' : (txR A 0).1 = 0 → RoP u (rD (txE A 0).2.2) := fun z => (u4 z).1 rfl
  have uh : ∀ x i, 203 ≤ x → x ≤ 209 → ¬ ((x = 204 ∨ x = 205 ∨ x = 206) ∧ i = 0) → u x i = h x i := fun x i q1 q2 q3 => by rw [uf x i (by omega) (by omega) (by omega) (by omega), gf x i (by omega) (by omega)]
  have uz : frZ u h := fun x i q => by rw [uf x i (by omega) (by omega) (by omega) (by omega), gf x i (by omega) (by omega)]
  have u204 : u 204 0 = 0 := by rw [uf _ _ (by omega) (by omega) (by omega) (by omega)]; exact g2
  have u207 : u 207 0 = ((aNp A : Nat) : Int) := by rw [uh _ _ (by omega) (by omega) (by omega)]; exact hM.2.2.1
  have b0 := b160_57 (n := n) (l1 := 0) (l2 := p) u1' (by intros; omega) (by intros; omega)
  by_cases f0 : (txR A 0).1 = 0
  case neg =>
    rw [if_neg f0, if_neg (show ¬ ¬ zw 0 = 0 by decide)] at b0
    rw [if_neg f0, if_neg f0]
    refine ⟨u, ?_, hM.isF hA u204 u2' u3' (fun x i q1 q2 => uh x i (by omega) q2 (by omega)), uz⟩
    rw [g1, b160_55, b0]
  have rp := u4' f0
  rw [if_pos f0, if_pos (show ¬ zw 1 = 0 by decide), hp.e, show ((0 : Int)).toNat = 0 from rfl, u207] at b0
  rw [if_pos f0, if_pos f0]
  have b70 : Zx 160 57 [zR 202, zI 0, zI p, zN, zN] [zI 0, zR 202] (Z0 n) g = Zx 160 86 [zR 202, zI 0, zN, zI (k : Int), zI ((0 : Nat) : Int)] [] (Z0 n) (zu u 207 0 ((if aNp A < k + 1 then k + 1 else aNp A : Nat) : Int)) := by
    rw [b0]
    rcases hpk with ⟨q1, q2⟩ | ⟨q1, q2, q3⟩
    · rw [if_neg (fun z => z q1), b160_70 (by omega) (by omega), hp.e, if_neg (fun z => z q1), show ((0 : Int)).toNat = 0 from rfl, u207, b160_82 (n_s0 := 8) (r_s0 := []) rfl (by omega) (by omega) (by omega), if_pos (by omega), show ((0 : Int)).toNat = 0 from rfl, show ((aNp A : Nat) : Int) + 1 = ((k + 1 : Nat) : Int) by omega, show ((aNp A : Nat) : Int) = (k : Int) by omega]
      rfl
    · rw [if_pos q1, b160_70 (by omega) (by omega), hp.e, if_pos q1, show ((0 : Int)).toNat = 0 from rfl, u207, b160_82 (n_s0 := 8) (r_s0 := []) rfl (by omega) (by omega) (by omega), if_neg (by omega), show ((0 : Int)).toNat = 0 from rfl, show ((aNp A : Nat) : Int) + 0 = ((aNp A : Nat) : Int) by omega, q2]
      rfl
  generalize hU : zu u 207 0 ((if aNp A < k + 1 then k + 1 else aNp A : Nat) : Int) = U at *
  have Uf : ∀ x i, x ≠ 207 → U x i = u x i := fun x i q => by rw [← hU, zu_off (by omega)]
  obtain ⟨w, w1, w2, w3⟩ := z_inv (N := 178) (X := fun i (v : zH) => Zx 160 86 [zR 202, zI 0, zN, zI (k : Int), zI (i : Int)] [] (Z0 n) v) (I := fun i v => (∀ j, j < i → v 208 (178 * k + j) = U 210 j) ∧ ∀ x j, ¬ (x = 208 ∧ 178 * k ≤ j ∧ j < 178 * k + 178) → v x j = U x j) (s := U) ⟨fun j q => absurd q (Nat.not_lt_zero j), fun _ _ _ => rfl⟩ (fun i v hi Iv => by
    have st := b160_86 (n := n) (h := v) (l1 := 0) (l3 := (k : Int)) (l4 := (i : Int)) (by intros; omega) (by intros; omega) (by intros; omega) (by intros; omega)
    rw [zw_nat (n := i) (by omega), if_neg (by omega), if_neg (show ¬ ¬ zw 0 = 0 by decide), show ((178 : Int) * (k : Int) + (i : Int)).toNat = 178 * k + i by omega, Int.toNat_natCast, show (i : Int) + 1 = ((i + 1 : Nat) : Int) by omega] at st
    refine ⟨_, st, fun j hj => ?_, fun x j q => by rw [zu_off (by omega)]; exact Iv.2 x j q⟩
    by_cases c : j = i
    · rw [c, zu_eq]; exact Iv.2 210 i (by omega)
    · rw [zu_off (by omega)]; exact Iv.1 j (by omega))
  have e178 : Zx 160 86 [zR 202, zI 0, zN, zI (k : Int), zI ((178 : Nat) : Int)] [] (Z0 n) w = some (some (zI (k : Int)), Z0 n, w) := by
    rw [b160_86 (fun q => absurd (by decide) q) (fun q => absurd (by decide) q) (fun q => absurd (by decide) q) (fun q => absurd (by decide) q), if_pos (by decide), b160_105, b160_107 (by intros; omega) (by intros; omega) (by intros; omega) (by intros; omega), if_neg (by decide), if_pos (show ¬ zw 0 = 1 by decide), b160_127]
  have fin : Zx 160 0 [zR 202, zI 0, zI p, zN, zN] [] (Z0 n) h = some (some (zI (k : Int)), Z0 n, w) := by
    rw [g1, b160_55, b70]
    exact Eq.trans w1 e178
  refine ⟨w, fin, hM.isP (g := U) hA k3 (by omega) ?_ ?_ ?_ ?_ ?_ (rp.far (fun i => Uf _ _ (by omega))) w2 (fun i q => ?_) (fun i => ?_), fun x i q => ?_⟩
  · rw [w3 _ _ (by omega), Uf _ _ (by omega)]; exact u204
  · rw [w3 _ _ (by omega), Uf _ _ (by omega)]; exact u2'
  · rw [w3 _ _ (by omega), Uf _ _ (by omega)]; exact u3'
  · rw [w3 _ _ (by omega), ← hU, zu_eq]
  · rw [w3 _ _ (by omega), ← hU, zu_off (by omega), uh _ _ (by omega) (by omega) (by omega)]
  · rw [w3 _ _ (by omega), Uf _ _ (by omega), uh _ _ (by omega) (by omega) (by omega)]
  · rw [w3 _ _ (by omega), Uf _ _ (by omega), uh _ _ (by omega) (by omega) (by omega)]
  · rw [w3 _ _ (by omega), ← hU, zu_off (by omega)]
    exact uz x i q
/-- FringeBenchModel.text, of a test -/
theorem m_txT {p : Int} {k : Nat} (hM : McT h 0 A) (hA : wfA A) (hp : zint p) (hk : plcO (aNp A) (aNt A) 1 p = (k : Int)) (k2 : k < 2) (hpk : (p = -1 ∧ k = aNt A) ∨ (p ≠ -1 ∧ p = (k : Int) ∧ k < aNt A)) : ∃ h', Zx 160 0 [zR 202, zI 1, zI p, zN, zN] [] (Z0 n) h = some (some (zI (if (txR A 1).1 = 0 then (k : Int) else -1)), Z0 n, h') ∧ McT h' 0 (if (txR A 1).1 = 0 then txT A k (rT (txE A 1).2.2) (txR A 1).1 (txR A 1).2 else txF A (txR A 1).1 (txR A 1).2) ∧ frZ h' h := by
  have nt := hA.2.2.2.1
  obtain ⟨i1, i2, i3⟩ := txR_in (t := 1) hA
  obtain ⟨g, g1, g2, g3, g4, gT, gf⟩ := m_tx0 (n := n) (t := 1) (p := p) hM hA ⟨by omega, by omega⟩ hp
  rw [hk, if_neg (by omega)] at g1
  obtain ⟨u, u1, u2, u3, u4, uf⟩ := m_rea (n := n) (h := g) (c := byc A) (m := aLen A) (t := 1) (Or.inr rfl) hA.1 byc_in gT
  have u1' : Zx 159 0 [zR 202, zI 1, zN, zN, zN, zN] [] (Z0 n) g = some (some (zI (if (txR A 1).1 = 0 then 1 else 0)), Z0 n, u) := u1
  have u2' : u 205 0 = (txR A 1).1 := u2
  have u3' : u 206 0 = (txR A 1).2 := u3
  have u4' : (txR A 1).1 = 0 → RoT u (rT (txE A 1).2.2) := fun z => (u4 z).2 rfl
  have uh : ∀ x i, 203 ≤ x → x ≤ 209 → ¬ ((x = 204 ∨ x = 205 ∨ x = 206) ∧ i = 0) → u x i = h x i := fun x i q1 q2 q3 => by rw [uf x i (by omega) (by omega) (by omega) (by omega), gf x i (by omega) (by omega)]
  have uz : frZ u h := fun x i q => by rw [uf x i (by omega) (by omega) (by omega) (by omega), gf x i (by omega) (by omega)]
  have u204 : u 204 0 = 0 := by rw [uf _ _ (by omega) (by omega) (by omega) (by omega)]; exact g2
  have u207 : u 207 1 = ((aNt A : Nat) : Int) := by rw [uh _ _ (by omega) (by omega) (by omega)]; exact hM.2.2.2.2.1
  have b0 := b160_57 (n := n) (l1 := 1) (l2 := p) u1' (by intros; omega) (by intros; omega)
  by_cases f0 : (txR A 1).1 = 0
  case neg =>
    rw [if_neg f0, if_neg (show ¬ ¬ zw 0 = 0 by decide)] at b0
    rw [if_neg f0, if_neg f0]
    refine ⟨u, ?_, hM.isF hA u204 u2' u3' (fun x i q1 q2 => uh x i (by omega) q2 (by omega)), uz⟩
    rw [g1, b160_55, b0]
  have rp := u4' f0
  have wT := (i3 f0).2.2
  rw [if_pos f0, if_pos (show ¬ zw 1 = 0 by decide), hp.e, show ((1 : Int)).toNat = 1 from rfl, u207] at b0
  rw [if_pos f0, if_pos f0]
  have b70 : Zx 160 57 [zR 202, zI 1, zI p, zN, zN] [zI 1, zR 202] (Z0 n) g = Zx 160 86 [zR 202, zI 1, zN, zI (k : Int), zI 0] [] (Z0 n) (zu u 207 1 ((if aNt A < k + 1 then k + 1 else aNt A : Nat) : Int)) := by
    rw [b0]
    rcases hpk with ⟨q1, q2⟩ | ⟨q1, q2, q3⟩
    · rw [if_neg (fun z => z q1), b160_70 (by omega) (by omega), hp.e, if_neg (fun z => z q1), show ((1 : Int)).toNat = 1 from rfl, u207, b160_82 (n_s0 := 8) (r_s0 := []) rfl (by omega) (by omega) (by omega), if_pos (by omega), show ((1 : Int)).toNat = 1 from rfl, show ((aNt A : Nat) : Int) + 1 = ((k + 1 : Nat) : Int) by omega, show ((aNt A : Nat) : Int) = (k : Int) by omega]
    · rw [if_pos q1, b160_70 (by omega) (by omega), hp.e, if_pos q1, show ((1 : Int)).toNat = 1 from rfl, u207, b160_82 (n_s0 := 8) (r_s0 := []) rfl (by omega) (by omega) (by omega), if_neg (by omega), show ((1 : Int)).toNat = 1 from rfl, show ((aNt A : Nat) : Int) + 0 = ((aNt A : Nat) : Int) by omega, q2]
  generalize hU : zu u 207 1 ((if aNt A < k + 1 then k + 1 else aNt A : Nat) : Int) = U at *
  have Uf : ∀ x i, x ≠ 207 → U x i = u x i := fun x i q => by rw [← hU, zu_off (by omega)]
  obtain ⟨w, w1, w2, w3⟩ := z_inv (N := 17) (X := fun i (v : zH) => Zx 160 107 [zR 202, zI 1, zN, zI (k : Int), zI (i : Int)] [] (Z0 n) v) (I := fun i v => (∀ j, j < i → v 209 (17 * k + j) = U 210 j) ∧ ∀ x j, ¬ (x = 209 ∧ 17 * k ≤ j ∧ j < 17 * k + 17) → v x j = U x j) (s := U) ⟨fun j q => absurd q (Nat.not_lt_zero j), fun _ _ _ => rfl⟩ (fun i v hi Iv => by
    have st := b160_107 (n := n) (h := v) (l1 := 1) (l3 := (k : Int)) (l4 := (i : Int)) (by intros; omega) (by intros; omega) (by intros; omega) (by intros; omega)
    rw [zw_nat (n := i) (by omega), if_neg (by omega), if_neg (show ¬ ¬ zw 1 = 1 by decide), show ((17 : Int) * (k : Int) + (i : Int)).toNat = 17 * k + i by omega, Int.toNat_natCast, show (i : Int) + 1 = ((i + 1 : Nat) : Int) by omega] at st
    refine ⟨_, st, fun j hj => ?_, fun x j q => by rw [zu_off (by omega)]; exact Iv.2 x j q⟩
    by_cases c : j = i
    · rw [c, zu_eq]; exact Iv.2 210 i (by omega)
    · rw [zu_off (by omega)]; exact Iv.1 j (by omega))
  have e86 : Zx 160 86 [zR 202, zI 1, zN, zI (k : Int), zI 0] [] (Z0 n) U = Zx 160 107 [zR 202, zI 1, zN, zI (k : Int), zI ((0 : Nat) : Int)] [] (Z0 n) U := by
    rw [b160_86 (fun _ q => absurd (by decide) q) (fun _ q => absurd (by decide) q) (fun _ q => absurd (by decide) q) (fun _ q => absurd (by decide) q), if_neg (by decide), if_pos (show ¬ zw 1 = 0 by decide), b160_105]
    rfl
  have e17 : Zx 160 107 [zR 202, zI 1, zN, zI (k : Int), zI ((17 : Nat) : Int)] [] (Z0 n) w = some (some (zI (k : Int)), Z0 n, w) := by
    rw [b160_107 (fun q => absurd (by decide) q) (fun q => absurd (by decide) q) (fun q => absurd (by decide) q) (fun q => absurd (by decide) q), if_pos (by decide), b160_127]
  have fin : Zx 160 0 [zR 202, zI 1, zI p, zN, zN] [] (Z0 n) h = some (some (zI (k : Int)), Z0 n, w) := by
    rw [g1, b160_55, b70, e86]
    exact Eq.trans w1 e17
  refine ⟨w, fin, hM.isT (g := U) hA k2 (by omega) wT ?_ ?_ ?_ ?_ ?_ ⟨by rw [Uf _ _ (by omega)]; exact rp.1, fun i hi => by rw [Uf _ _ (by omega), Uf _ _ (by omega)]; exact rp.2 i hi⟩ w2 (fun i q => ?_) (fun i => ?_), fun x i q => ?_⟩
  · rw [w3 _ _ (by omega), Uf _ _ (by omega)]; exact u204
  · rw [w3 _ _ (by omega), Uf _ _ (by omega)]; exact u2'
  · rw [w3 _ _ (by omega), Uf _ _ (by omega)]; exact u3'
  · rw [w3 _ _ (by omega), ← hU, zu_eq]
  · rw [w3 _ _ (by omega), ← hU, zu_off (by omega), uh _ _ (by omega) (by omega) (by omega)]
  · rw [w3 _ _ (by omega), Uf _ _ (by omega), uh _ _ (by omega) (by omega) (by omega)]
  · rw [w3 _ _ (by omega), Uf _ _ (by omega), uh _ _ (by omega) (by omega) (by omega)]
  · rw [w3 _ _ (by omega), ← hU, zu_off (by omega)]
    exact uz x i q
/-- text -/
theorem op_text (hA : wfA A) {t p : Int} (ht : zint t) (hp : zint p) : OpX n 97 160 [zR 1, zI t, zI p, zN, zN] [zR 202, zI t, zI p, zN, zN] A := by
  rcases plcO_in (np := aNp A) (nt := aNt A) (t := t) (p := p) hA.2.1 hA.2.2.2.1 with q | ⟨t0, k, hk, k3, hpk⟩ | ⟨t1, k, hk, k2, hpk⟩
  · refine ⟨-2, txF A 0 (-1), txF.wf hA ⟨by omega, by omega⟩ ⟨by omega, by omega⟩, fun h hS => ?_, fun g hM => ?_⟩
    · obtain ⟨u, u1, u2, u3, u4, uf⟩ := c_tx0 (n := n) (t := t) (p := p) hS hA ht hp
      rw [if_pos q] at u1
      exact ⟨u, u1, hS.isF hA u2 u3 u4 (fun x k q1 _ => uf x k q1), fun x k q => uf x k (by omega)⟩
    · obtain ⟨u, u1, u2, u3, u4, uT, uf⟩ := m_tx0 (n := n) (t := t) (p := p) hM hA ht hp
      rw [if_pos q] at u1
      exact ⟨u, u1, hM.isF hA u2 u3 u4 (fun x k q1 q2 => uf x k (by omega) (by omega)), fun x k q => uf x k (by omega) (by omega)⟩
  · subst t0
    obtain ⟨i1, i2, i3⟩ := txR_in (t := 0) hA
    refine ⟨if (txR A 0).1 = 0 then (k : Int) else -1, if (txR A 0).1 = 0 then txP A k (rD (txE A 0).2.2) (txR A 0).1 (txR A 0).2 else txF A (txR A 0).1 (txR A 0).2, ?_, fun h hS => c_txP hS hA hp hk k3 (by omega), fun g hM => m_txP hM hA hp hk k3 hpk⟩
    by_cases f0 : (txR A 0).1 = 0
    · rw [if_pos f0]
      exact txP.wf hA k3 (by omega) (i3 f0).2.1 ⟨by omega, by omega⟩ ⟨by omega, by omega⟩
    · rw [if_neg f0]
      exact txF.wf hA ⟨by omega, by omega⟩ ⟨by omega, by omega⟩
  · subst t1
    obtain ⟨i1, i2, i3⟩ := txR_in (t := 1) hA
    refine ⟨if (txR A 1).1 = 0 then (k : Int) else -1, if (txR A 1).1 = 0 then txT A k (rT (txE A 1).2.2) (txR A 1).1 (txR A 1).2 else txF A (txR A 1).1 (txR A 1).2, ?_, fun h hS => c_txT hS hA hp hk k2 (by omega), fun g hM => m_txT hM hA hp hk k2 hpk⟩
    by_cases f0 : (txR A 1).1 = 0
    · rw [if_pos f0]
      exact txT.wf hA k2 (by omega) (i3 f0).2.2 ⟨by omega, by omega⟩ ⟨by omega, by omega⟩
    · rw [if_neg f0]
      exact txF.wf hA ⟨by omega, by omega⟩ ⟨by omega, by omega⟩
end OTY
