/-! THE REFERENCE: contrast, phase by steps -/
section RF3
variable {n : Nat} {h : zH} {st : Nat → Int}
theorem m_pla {a : Int} (ha : zint a) : Zx 139 0 [zI a] [] (Z0 n) h = some (some (zI (ab a)), Z0 n, h) := by
  rw [s_plain, ha.e]
  rfl
theorem m_con (hst : ∀ k, k < 100 → h 211 k = st k ∧ 0 ≤ st k ∧ st k ≤ 99) {k : Nat} (hk : k < 25) : Zx 163 0 [zR 202, zI (k : Int)] [] (Z0 n) h = some (some (zI (ctr st k)), Z0 n, h) := by
  obtain ⟨e1, r1⟩ := hst k (by omega)
  obtain ⟨e2, r2⟩ := hst (50 + k) (by omega)
  obtain ⟨e3, r3⟩ := hst (25 + k) (by omega)
  obtain ⟨e4, r4⟩ := hst (75 + k) (by omega)
  rw [b163_0 (by intros; omega) (by intros; omega) (by intros; omega) (by intros; omega), Int.toNat_natCast, show ((50 : Int) + (k : Int)).toNat = 50 + k by omega, e1, e2, b163_11 (m_pla ⟨by omega, by omega⟩) (by intros; omega) (by intros; omega) (by intros; omega) (by intros; omega), show ((25 : Int) + (k : Int)).toNat = 25 + k by omega, show ((75 : Int) + (k : Int)).toNat = 75 + k by omega, e3, e4, b163_25 (m_pla ⟨by omega, by omega⟩)]
  rfl
theorem m_pbs (hst : ∀ k, k < 100 → h 211 k = st k ∧ 0 ≤ st k ∧ st k ≤ 99) {l2 : Int} (hl : h 202 22 = l2) (hl2 : 1 ≤ l2 ∧ l2 ≤ 198) {k : Nat} (hk : k < 25) : Zx 164 0 [zR 202, zI (k : Int), zN, zN, zN] [] (Z0 n) h = some (some (zI (if ctr st k < l2 ∨ ctr st k = 0 then -1 else pbs st k)), Z0 n, h) := by
  obtain ⟨e1, r1⟩ := hst k (by omega)
  obtain ⟨e2, r2⟩ := hst (50 + k) (by omega)
  obtain ⟨e3, r3⟩ := hst (25 + k) (by omega)
  obtain ⟨e4, r4⟩ := hst (75 + k) (by omega)
  have rc : 0 ≤ ctr st k ∧ ctr st k ≤ 198 := by
    have a := ab_e (st k - st (50 + k))
    have b := ab_e (st (25 + k) - st (75 + k))
    unfold ctr
    omega
  have zc := zw_id (z := ctr st k) (by omega) (by omega)
  have zl := zw_id (z := l2) (by omega) (by omega)
  rw [b164_0 (by intros; omega) (by intros; omega) (by intros; omega) (by intros; omega) (by intros; omega) (by intros; omega) (by intros; omega) (by intros; omega), Int.toNat_natCast, show ((50 : Int) + (k : Int)).toNat = 50 + k by omega, show ((25 : Int) + (k : Int)).toNat = 25 + k by omega, show ((75 : Int) + (k : Int)).toNat = 75 + k by omega, e1, e2, e3, e4, b164_28 (m_con hst hk) (by rw [hl, zl, zc]; intros; omega), hl, zl, zc]
  by_cases c1 : ctr st k < l2
  · rw [if_neg (by omega), if_pos (Or.inl c1)]
  have c2 : ctr st k ≠ 0 := by omega
  have nz : ¬ zw (ctr st k) = 0 := by rw [zc]; exact c2
  rw [if_pos (by omega), if_neg (show ¬ (ctr st k < l2 ∨ ctr st k = 0) from fun z => by rcases z with z | z; exact c1 z; exact c2 z)]
  have xr : -99 ≤ st k - st (50 + k) ∧ st k - st (50 + k) ≤ 99 := by omega
  have yr : -99 ≤ st (25 + k) - st (75 + k) ∧ st (25 + k) - st (75 + k) ≤ 99 := by omega
  have e46 := b164_46 (n := n) (h := h) (l2 := st k - st (50 + k)) (l3 := st (25 + k) - st (75 + k)) (l4 := ctr st k) (fun _ _ => nz)
  rw [b164_58 (fun _ => nz) (fun _ => nz), zc, b164_75, b164_75, b164_75] at e46
  rw [b164_75]
  unfold pbs
  generalize st k - st (50 + k) = x at *
  generalize st (25 + k) - st (75 + k) = y at *
  have zx := zw_id (z := x) (by omega) (by omega)
  have zy := zw_id (z := y) (by omega) (by omega)
  have zx1 := zw_id (z := 100 * x) (by omega) (by omega)
  have zy1 := zw_id (z := 100 * y) (by omega) (by omega)
  rw [zx, zy, zx1, zy1] at e46
  rw [zx, zy, zy1, e46]
  by_cases d1 : 0 < x
  · by_cases d2 : 0 ≤ y
    · rw [if_neg (show ¬ x ≤ 0 by omega), if_neg (show ¬ y < 0 by omega), if_pos ⟨d1, d2⟩]
    · rw [if_neg (show ¬ x ≤ 0 by omega), if_pos (show y < 0 by omega), if_pos d1, if_pos (show 0 ≤ x by omega), if_neg (show ¬ (0 < x ∧ 0 ≤ y) by omega), if_neg (show ¬ (x ≤ 0 ∧ 0 < y) by omega), if_neg (show ¬ x < 0 by omega)]
  · rw [if_pos (show x ≤ 0 by omega), if_neg d1, if_neg (show ¬ (0 < x ∧ 0 ≤ y) by omega)]
    by_cases d2 : 0 < y
    · rw [if_neg (show ¬ y ≤ 0 by omega), if_pos (show x ≤ 0 ∧ 0 < y by omega)]
    · rw [if_pos (show y ≤ 0 by omega), if_neg (show ¬ (x ≤ 0 ∧ 0 < y) by omega)]
      by_cases d3 : 0 ≤ x
      · rw [if_pos d3, if_neg (show ¬ x < 0 by omega)]
      · rw [if_neg d3, if_pos (show x < 0 by omega)]
end RF3
