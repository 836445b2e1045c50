/-! READING: the class takes a number, further -/
section TKT
variable {n : Nat} {h : zH}
/-- Reader.takeWeight -/
theorem c_twt0 {v : Int} (h5 : h 104 5 = v) (h11 : h 104 11 = 0) (hv : zint v) : Zx 63 0 [zR 104, zI 0] [] (Z0 n) h = some (none, Z0 n, if 0 ≤ v ∧ v ≤ 24 then zu (zu h 104 7 v) 105 v.toNat 1 else flt2 h) := by
  rw [b63_0, if_neg (fun z => z zw0), b63_3 (c_tpx h5 h11 hv), b63_19]
theorem c_twt {v p i : Int} (h5 : h 104 5 = v) (h11 : h 104 11 = 0) (hv : zint v) (h7 : h 104 7 = p) (hp : 0 ≤ p ∧ p ≤ 24) (hi : 1 ≤ i ∧ i ≤ 600) : Zx 63 0 [zR 104, zI i] [] (Z0 n) h = some (none, Z0 n, if 1 ≤ v ∧ v ≤ 9 then zu h 108 p.toNat v else flt2 h) := by
  have fr := c_isf (n := n) h5 h11 hv (lo := 1) (hi := 9) ⟨by omega, by omega⟩ ⟨by omega, by omega⟩
  rw [b63_0, zw_id (z := i) (by omega) (by omega), if_pos (by omega)]
  by_cases q : 1 ≤ v ∧ v ≤ 9
  · rw [if_pos q, if_pos q] at fr
    rw [b63_9 fr (by rw [h7]; intros; omega) (by rw [h7]; intros; omega), if_neg (show ¬ zw 1 = 0 by decide), b63_19, if_pos q, h5, h7]
  · rw [if_neg q, if_neg q] at fr
    rw [b63_9 fr (fun z => absurd zw0 z) (fun z => absurd zw0 z), if_pos zw0, b63_19, if_neg q]
    rfl
/-- Reader.takePhase -/
theorem c_tph0 {v : Int} (h5 : h 104 5 = v) (h11 : h 104 11 = 0) (hv : zint v) : Zx 62 0 [zR 104, zI 0, zN] [] (Z0 n) h = some (none, Z0 n, if 0 ≤ v ∧ v ≤ 24 then zu (zu h 104 7 v) 105 v.toNat 1 else flt2 h) := by
  rw [b62_0, if_neg (fun z => z zw0), b62_3 (c_tpx h5 h11 hv), b62_27]
theorem c_tph {v p i : Int} (h5 : h 104 5 = v) (h11 : h 104 11 = 0) (hv : zint v) (h7 : h 104 7 = p) (hp : 0 ≤ p ∧ p ≤ 24) (hi : 1 ≤ i ∧ i ≤ 600) : Zx 62 0 [zR 104, zI i, zN] [] (Z0 n) h = some (none, Z0 n, if (0 ≤ v ∧ v ≤ 399) ∧ p + (i - 1) < 25 then zu (zu h 105 (p + (i - 1)).toNat 1) 109 (p + (i - 1)).toNat v else flt2 h) := by
  have fr := c_isf (n := n) h5 h11 hv (lo := 0) (hi := 399) ⟨by omega, by omega⟩ ⟨by omega, by omega⟩
  rw [b62_0, zw_id (z := i) (by omega) (by omega), if_pos (by omega)]
  by_cases q : 0 ≤ v ∧ v ≤ 399
  · rw [if_pos q, if_pos q] at fr
    have px := c_pxb (n := n) (i := i - 1) h7 h11 hp ⟨by omega, by omega⟩
    rw [b62_9 fr, if_neg (show ¬ zw 1 = 0 by decide)]
    by_cases r : p + (i - 1) < 25
    · rw [if_pos r, if_pos r] at px
      have w5 : zu h 105 (p + (i - 1)).toNat 1 104 5 = v := by rw [zu_off (by omega)]; exact h5
      rw [b62_15 px (by intros; omega) (by intros; omega), zw_id (z := p + (i - 1)) (by omega) (by omega), if_neg (by omega), b62_27, if_pos ⟨q, r⟩, w5]
    · rw [if_neg r, if_neg r] at px
      rw [b62_15 px (fun z => absurd zwm1 z) (fun z => absurd zwm1 z), if_pos zwm1, b62_27, if_neg (fun z => r z.2)]
  · rw [if_neg q, if_neg q] at fr
    rw [b62_9 fr, if_pos zw0, b62_27, if_neg (fun z => q z.1)]
    rfl
end TKT
