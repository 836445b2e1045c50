/-! READING: the class takes a step -/
section TKU
variable {n : Nat} {h : zH}
/-- Reader.takeStep -/
theorem c_tst0 {v : Int} (h5 : h 104 5 = v) (h11 : h 104 11 = 0) (hv : zint v) : Zx 61 0 [zR 104, zI 0, zN] [] (Z0 n) h = some (none, Z0 n, if 0 ≤ v ∧ v ≤ 3 then zu h 104 6 v else flt2 h) := by
  have fr := c_isf (n := n) h5 h11 hv (lo := 0) (hi := 3) ⟨by omega, by omega⟩ ⟨by omega, by omega⟩
  rw [b61_0, if_neg (fun z => z zw0)]
  by_cases q : 0 ≤ v ∧ v ≤ 3
  · rw [if_pos q, if_pos q] at fr
    rw [b61_5 fr, if_neg (show ¬ zw 1 = 0 by decide), b61_45, if_pos q, h5]
  · rw [if_neg q, if_neg q] at fr
    rw [b61_5 fr, if_pos zw0, b61_45, if_neg q]
    rfl
theorem c_tst1 {v : Int} (h5 : h 104 5 = v) (h11 : h 104 11 = 0) (hv : zint v) : Zx 61 0 [zR 104, zI 1, zN] [] (Z0 n) h = some (none, Z0 n, if 0 ≤ v ∧ v ≤ 24 then zu (zu h 104 7 v) 105 v.toNat 1 else flt2 h) := by
  rw [b61_0, if_pos (show ¬ zw 1 = 0 by decide), if_neg (show ¬ ¬ zw 1 = 1 by decide), b61_16 (c_tpx h5 h11 hv), b61_45]
theorem c_tst {v p s i : Int} (h5 : h 104 5 = v) (h11 : h 104 11 = 0) (hv : zint v) (h7 : h 104 7 = p) (h6 : h 104 6 = s) (hs : 0 ≤ s ∧ s ≤ 3) (hp : 0 ≤ p ∧ p ≤ 24) (hi : 2 ≤ i ∧ i ≤ 600) : Zx 61 0 [zR 104, zI i, zN] [] (Z0 n) h = some (none, Z0 n, if (0 ≤ v ∧ v ≤ 99) ∧ p + (i - 2) < 25 then zu (zu h 105 (p + (i - 2)).toNat 1) 107 (s * 25 + (p + (i - 2))).toNat v else flt2 h) := by
  have fr := c_isf (n := n) h5 h11 hv (lo := 0) (hi := 99) ⟨by omega, by omega⟩ ⟨by omega, by omega⟩
  rw [b61_0, zw_id (z := i) (by omega) (by omega), if_pos (by omega), if_pos (by omega)]
  by_cases q : 0 ≤ v ∧ v ≤ 99
  · rw [if_pos q, if_pos q] at fr
    have px := c_pxb (n := n) (i := i - 2) h7 h11 hp ⟨by omega, by omega⟩
    rw [b61_22 fr, if_neg (show ¬ zw 1 = 0 by decide)]
    by_cases r : p + (i - 2) < 25
    · rw [if_pos r, if_pos r] at px
      have w5 : zu h 105 (p + (i - 2)).toNat 1 104 5 = v := by rw [zu_off (by omega)]; exact h5
      have w6 : zu h 105 (p + (i - 2)).toNat 1 104 6 = s := by rw [zu_off (by omega)]; exact h6
      rw [b61_28 px (by rw [w6]; intros; omega) (by rw [w6]; intros; omega), zw_id (z := p + (i - 2)) (by omega) (by omega), if_neg (by omega), b61_45, if_pos ⟨q, r⟩, w5, w6]
    · rw [if_neg r, if_neg r] at px
      rw [b61_28 px (fun z => absurd zwm1 z) (fun z => absurd zwm1 z), if_pos zwm1, b61_45, if_neg (fun z => r z.2)]
  · rw [if_neg q, if_neg q] at fr
    rw [b61_22 fr, if_pos zw0, b61_45, if_neg (fun z => q z.1)]
    rfl
end TKU
