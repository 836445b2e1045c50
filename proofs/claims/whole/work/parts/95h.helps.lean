/-! READING: the class's helpers -/
section HLP
variable {n : Nat} {h : zH}
/-- how many numbers a line has: at least, at most -/
def fewN (t l : Int) : Int := if t = 1 then 1 else if l = 0 then 2 else if l = 1 then 3 else if l = 2 then 2 else if l = 3 then 1 else if l = 4 then 2 else 1
def mostN (t l : Int) : Int := if t = 0 ∧ (l = 1 ∨ l = 2 ∨ l = 3) then 600 else fewN t l
theorem s_few {S : zS} {t l : Int} (ht : t = 0 ∨ t = 1) (hl : 0 ≤ l ∧ l ≤ 5) : Zx 53 0 [zI t, zI l] [] S h = some (some (zI (fewN t l)), S, h) := by
  rw [b53_0, zw_id (z := t) (by omega) (by omega), zw_id (z := l) (by omega) (by omega)]
  unfold fewN
  rcases ht with e | e
  · rw [if_pos (by omega), if_neg (by omega)]
    rcases (by omega : l = 0 ∨ l = 1 ∨ l = 2 ∨ l = 3 ∨ l = 4 ∨ l = 5) with e | e | e | e | e | e <;> subst e
    · show Zx 53 9 _ _ _ _ = _
      refine (Zx_nm (L' := [zN, zN]) rfl rfl).trans ?_
      exact b53_9
    · show Zx 53 7 _ _ _ _ = _
      refine (Zx_nm (L' := [zN, zN]) rfl rfl).trans ?_
      exact b53_7
    · show Zx 53 9 _ _ _ _ = _
      refine (Zx_nm (L' := [zN, zN]) rfl rfl).trans ?_
      exact b53_9
    · show Zx 53 11 _ _ _ _ = _
      refine (Zx_nm (L' := [zN, zN]) rfl rfl).trans ?_
      exact b53_11
    · show Zx 53 9 _ _ _ _ = _
      refine (Zx_nm (L' := [zN, zN]) rfl rfl).trans ?_
      exact b53_9
    · show Zx 53 11 _ _ _ _ = _
      refine (Zx_nm (L' := [zN, zN]) rfl rfl).trans ?_
      exact b53_11
  · rw [if_neg (fun z => z e), if_pos e]
theorem s_most {S : zS} {t l : Int} (ht : t = 0 ∨ t = 1) (hl : 0 ≤ l ∧ l ≤ 5) : Zx 54 0 [zI t, zI l, zN] [] S h = some (some (zI (mostN t l)), S, h) := by
  have z1 : ¬ zw 1 = 0 := by decide
  have fw := s_few (S := S) (h := h) ht hl
  rw [b54_0, zw_id (z := t) (by omega) (by omega), zw_id (z := l) (by omega) (by omega)]
  unfold mostN
  by_cases t0 : t = 0
  · rw [if_neg (fun z => z t0)]
    by_cases l1 : l = 1
    · rw [if_pos l1, b54_11, b54_14, if_neg z1, b54_22, if_pos ⟨t0, Or.inl l1⟩]
    · rw [if_neg l1]
      by_cases l2 : l = 2
      · rw [if_pos l2, b54_11, b54_14, if_neg z1, b54_22, if_pos ⟨t0, Or.inr (Or.inl l2)⟩]
      · rw [if_neg l2]
        by_cases l3 : l = 3
        · rw [if_neg (fun z => z l3), b54_11, b54_14, if_neg z1, b54_22, if_pos ⟨t0, Or.inr (Or.inr l3)⟩]
        · rw [if_pos l3, b54_13, b54_14, if_pos zw0, b54_21 fw, b54_22, if_neg (by omega)]
  · rw [if_pos t0, b54_13, b54_14, if_pos zw0, b54_21 fw, b54_22, if_neg (by omega)]
/-- Reader.mark: the first fault stays -/
theorem c_mrk {k : Int} {f : Int} (hf : h 104 11 = f) (hi : zint f) : Zx 44 0 [zR 104, zI k] [] (Z0 n) h = some (none, Z0 n, if f = 0 then zu (zu h 104 11 k) 104 12 (h 104 3) else h) := by
  rw [b44_0, hf, hi.e]
  by_cases q : f = 0
  · rw [if_neg (fun z => z q), if_pos q, zu_off (x := 104) (y := 104) (k := 11) (i := 3) (by omega), b44_10]
  · rw [if_pos q, if_neg q, b44_10]
/-- Reader.isFrom -/
theorem c_isf {v lo hi : Int} (h5 : h 104 5 = v) (h11 : h 104 11 = 0) (hv : zint v) (hl : zint lo) (hh : zint hi) : Zx 57 0 [zR 104, zI lo, zI hi] [] (Z0 n) h = some (some (zI (if lo ≤ v ∧ v ≤ hi then 1 else 0)), Z0 n, if lo ≤ v ∧ v ≤ hi then h else zu (zu h 104 11 2) 104 12 (h 104 3)) := by
  have mk := c_mrk (n := n) (h := h) (k := 2) (f := 0) h11 ⟨by omega, by omega⟩
  rw [if_pos rfl] at mk
  rw [b57_0, h5, hv.e, hl.e, hh.e]
  by_cases q : v < lo
  · rw [if_pos q, b57_8, b57_10 mk, if_neg (by omega), if_neg (by omega)]
  · rw [if_neg q]
    by_cases r : v ≤ hi
    · rw [if_pos r, if_pos ⟨by omega, r⟩, if_pos ⟨by omega, r⟩]
    · rw [if_neg r, b57_8, b57_10 mk, if_neg (by omega), if_neg (by omega)]
/-- Reader.refuse -/
theorem c_rfs : Zx 43 0 [zR 104] [] (Z0 n) h = some (some (zI 0), Z0 n, zu (zu h 104 11 1) 104 12 (h 104 3)) := by
  rw [b43_0, zu_off (x := 104) (y := 104) (k := 11) (i := 3) (by omega)]
/-- FringeBenchModel.later: the earliest stays -/
theorem m_ltr {k p : Int} (h15 : h 202 15 = 0) : Zx 151 0 [zR 202, zI k, zI p] [] (Z0 n) h = some (none, Z0 n, zu (zu h 202 15 k) 202 16 p) := by
  rw [b151_0, h15, if_pos zw0, b151_15, b151_21]
theorem m_ltr2 {k p q f : Int} (h15 : h 202 15 = f) (h16 : h 202 16 = q) (hf : zint f ∧ f ≠ 0) (hq : zint q) (hp : zint p) (hk : zint k) (hl : q < p ∨ (q = p ∧ f ≤ k)) : Zx 151 0 [zR 202, zI k, zI p] [] (Z0 n) h = some (none, Z0 n, h) := by
  rw [b151_0, h15, h16, hf.1.e, hq.e, hp.e, hk.e, if_neg hf.2, if_neg (by omega)]
  by_cases z : p = q
  · rw [if_neg (fun y => y z), if_pos (by omega), b151_21]
  · rw [if_pos z, b151_21]
/-- FringeBenchModel.stops -/
theorem m_stp : Zx 150 0 [zR 202] [] (Z0 n) h = some (some (zI 0), Z0 n, zu h 202 14 (h 202 10)) := b150_0
end HLP
