/-! THE REFERENCE: the first pixel of a part -/
section RF2
variable {n : Nat} {h : zH} {N : Nat}
/-- FringeBenchModel.rootOf -/
theorem m_roo {p : Int} {q : Nat → Int} (hN : h 202 23 = (N : Int)) (h25 : N ≤ 25) (hp : zint p) (hq : ∀ k, k < N → h 217 k = q k ∧ zint (q k)) : Zx 171 0 [zR 202, zI p, zN] [] (Z0 n) h = some (some (zI (fst (fun k => decide (q k = p)) N)), Z0 n, h) := by
  have step : ∀ i : Nat, i < N → Zx 171 2 [zR 202, zI p, zI (i : Int)] [] (Z0 n) h = if decide (q i = p) = true then some (some (zI (i : Int)), Z0 n, h) else Zx 171 2 [zR 202, zI p, zI ((i + 1 : Nat) : Int)] [] (Z0 n) h := by
    intro i hi
    obtain ⟨a, b⟩ := hq i hi
    rw [b171_2 (by intros; omega) (by intros; omega), hN, zw_nat (by omega), zw_nat (by omega), if_neg (by omega), Int.toNat_natCast, a, b.e, hp.e]
    by_cases c : q i = p
    · rw [if_neg (fun z => z c), if_pos (decide_eq_true c)]
    · rw [if_pos c, if_neg (fun z => c (of_decide_eq_true z))]
      rfl
  rw [b171_0]
  have ch : ∀ m, m ≤ N → (∀ k, k < m → decide (q k = p) = false) → Zx 171 2 [zR 202, zI p, zI 0] [] (Z0 n) h = Zx 171 2 [zR 202, zI p, zI (m : Int)] [] (Z0 n) h := fun m hm hk =>
    z_chain (N := m) (X := fun i => Zx 171 2 [zR 202, zI p, zI (i : Int)] [] (Z0 n) h) (fun i hi => by
      have := step i (by omega)
      rw [hk i hi] at this
      exact this)
  rcases fst_cases (fun k => decide (q k = p)) N with ⟨h1, h2⟩ | ⟨k, h1, h2, h3, h4⟩
  · rw [h1, ch N (Nat.le_refl _) h2]
    rw [b171_2 (by intros; omega) (by rw [hN]; intro q; exact absurd (Int.le_refl _) q), hN, if_pos (Int.le_refl _)]
  · rw [h2, ch k (by omega) h4, step k h1, if_pos h3]
end RF2
