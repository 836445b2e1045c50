/-! READING: the class takes a number -/
section TKS
variable {n : Nat} {h : zH}
/-- the heap with fault 2 at the token -/
def flt2 (h : zH) : zH := zu (zu h 104 11 2) 104 12 (h 104 3)
/-- Reader.takePixel -/
theorem c_tpx {v : Int} (h5 : h 104 5 = v) (h11 : h 104 11 = 0) (hv : zint v) : Zx 59 0 [zR 104] [] (Z0 n) h = some (some (zI (if 0 ≤ v ∧ v ≤ 24 then 1 else 0)), Z0 n, if 0 ≤ v ∧ v ≤ 24 then zu (zu h 104 7 v) 105 v.toNat 1 else flt2 h) := by
  have fr := c_isf (n := n) h5 h11 hv (lo := 0) (hi := 24) ⟨by omega, by omega⟩ ⟨by omega, by omega⟩
  by_cases q : 0 ≤ v ∧ v ≤ 24
  · rw [if_pos q, if_pos q] at fr
    have w5 : zu h 104 7 v 104 5 = v := by rw [zu_off (by omega)]; exact h5
    rw [b59_0, b59_3 fr (by rw [h5, w5]; intros; omega) (by rw [h5, w5]; intros; omega), if_pos (show ¬ zw 1 = 0 by decide), if_pos q, if_pos q, h5, w5]
  · rw [if_neg q, if_neg q] at fr
    rw [b59_0, b59_3 fr (fun z => absurd zw0 z) (fun z => absurd zw0 z), if_neg (fun z => z zw0), if_neg q, if_neg q]
    rfl
/-- Reader.pixelBehind -/
theorem c_pxb {p i : Int} (h7 : h 104 7 = p) (h11 : h 104 11 = 0) (hp : 0 ≤ p ∧ p ≤ 24) (hi : 0 ≤ i ∧ i ≤ 600) : Zx 60 0 [zR 104, zI i, zN] [] (Z0 n) h = some (some (zI (if p + i < 25 then p + i else -1)), Z0 n, if p + i < 25 then zu h 105 (p + i).toNat 1 else flt2 h) := by
  have mk := c_mrk (n := n) (h := h) (k := 2) (f := 0) h11 ⟨by omega, by omega⟩
  rw [if_pos rfl] at mk
  rw [b60_0 (by rw [h7, zw_id (z := p + i) (by omega) (by omega)]; intros; omega) (by rw [h7, zw_id (z := p + i) (by omega) (by omega)]; intros; omega), h7, zw_id (z := p + i) (by omega) (by omega), if_neg (by omega)]
  by_cases q : p + i < 25
  · rw [if_pos q, if_pos q, if_pos q]
  · rw [if_neg q, b60_10, b60_12 mk, if_neg q, if_neg q]
    rfl
/-- Reader.takeSize -/
theorem c_tsz {v i : Int} (h5 : h 104 5 = v) (h11 : h 104 11 = 0) (hv : zint v) (hi : zint i) : Zx 58 0 [zR 104, zI i] [] (Z0 n) h = some (none, Z0 n, if 2 ≤ v ∧ v ≤ 5 then (if i = 0 then zu h 106 0 v else zu h 106 1 v) else flt2 h) := by
  have fr := c_isf (n := n) h5 h11 hv (lo := 2) (hi := 5) ⟨by omega, by omega⟩ ⟨by omega, by omega⟩
  by_cases q : 2 ≤ v ∧ v ≤ 5
  · rw [if_pos q, if_pos q] at fr
    rw [b58_0, b58_3 fr, if_neg (show ¬ zw 1 = 0 by decide), hi.e, if_pos q, h5]
    by_cases r : i = 0
    · rw [if_neg (fun z => z r), if_pos r, b58_18]
    · rw [if_pos r, if_neg r, b58_18]
  · rw [if_neg q, if_neg q] at fr
    rw [b58_0, b58_3 fr, if_pos zw0, b58_18, if_neg q]
    rfl
end TKS
