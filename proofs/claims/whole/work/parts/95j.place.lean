/-! READING: for which place -/
section PLC
variable {n : Nat} {h : zH}
/-- the place a text is for, -2 none -/
def plcO (np nt : Nat) (t p : Int) : Int := if t = 0 then (if p = -1 then (if np = 3 then -2 else (np : Int)) else if 0 ≤ p ∧ p < np then p else -2) else if t = 1 then (if p = -1 then (if nt = 2 then -2 else (nt : Int)) else if 0 ≤ p ∧ p < nt then p else -2) else -2
theorem c_plc {np nt : Nat} {t p : Int} (h3 : h 2 3 = (np : Int)) (h5 : h 2 5 = (nt : Int)) (hn : np ≤ 3) (ht' : nt ≤ 2) (ht : zint t) (hp : zint p) : Zx 98 0 [zR 1, zI t, zI p, zN, zN] [] (Z0 n) h = some (some (zI (plcO np nt t p)), Z0 n, h) := by
  have aft : ∀ (s cap : Nat), s ≤ cap → cap ≤ 3 → Zx 98 22 [zN, zN, zI p, zI (s : Int), zN] [zI (cap : Int)] (Z0 n) h = some (some (zI (if p = -1 then (if s = cap then -2 else (s : Int)) else if 0 ≤ p ∧ p < s then p else -2)), Z0 n, h) := fun s cap h1 h2 => by
    rw [b98_22, hp.e, zw_nat (n := s) (by omega), zw_nat (n := cap) (by omega)]
    by_cases q : p = -1
    · rw [if_neg (fun z => z q), if_pos q]
      by_cases r : s = cap
      · rw [if_pos (by omega), if_pos r, b98_32]
      · rw [if_neg (by omega), if_neg r, b98_32]
    · rw [if_pos q, if_neg q]
      by_cases r : 0 ≤ p ∧ p < s
      · rw [if_neg (by omega), if_neg (by omega), if_neg (by omega), if_pos r, b98_44]
      · rw [if_neg r]
        by_cases u : p < 0
        · rw [if_pos u, b98_43, b98_44]
        · rw [if_neg u, if_pos (by omega), b98_43, b98_44]
  unfold plcO
  by_cases t0 : t = 0
  · subst t0
    rw [if_pos rfl, b98_0, if_pos zw0, b98_7, if_neg (fun z => z zw0), h3, b98_16, if_neg (fun z => z zw0)]
    exact aft np 3 hn (Nat.le_refl _)
  rw [if_neg t0]
  by_cases t1 : t = 1
  · subst t1
    have z1 : ¬ zw 1 = 0 := by decide
    rw [if_pos rfl, b98_0, if_neg z1, if_pos (by decide), b98_7, if_pos z1, h5, b98_16, if_pos z1]
    exact aft nt 2 ht' (by omega)
  · rw [if_neg t1, b98_0, ht.e, if_neg t0, if_neg t1]
/-- the reference's part of it -/
theorem m_plc {np nt : Nat} {t p : Int} (h7 : h 207 0 = (np : Int)) (h7' : h 207 1 = (nt : Int)) (hn : np ≤ 3) (ht' : nt ≤ 2) (ht : zint t) (hp : zint p) : Zx 160 27 [zR 202, zI t, zI p, zN, zN] [zI 1, zI 0, zI t] (Z0 n) h = if plcO np nt t p = -2 then some (some (zI (-2)), Z0 n, h) else Zx 160 55 [zR 202, zI t, zI p, zN, zN] [] (Z0 n) h := by
  have iz := s_inz (S := Z0 n) (h := h) (a := t) (b := 0) (c := 1) ht ⟨by omega, by omega⟩ ⟨by omega, by omega⟩
  have st := b160_27 (n := n) (h := h) (l1 := t) (l2 := p) iz (by intro q; intros; have := zif_of q; omega) (by intro q; intros; have := zif_of q; omega) (by intro q; intros; have := zif_of q; omega) (by intro q; intros; have := zif_of q; omega)
  rw [st, hp.e, ht.e]
  unfold plcO
  by_cases tt : 0 ≤ t ∧ t ≤ 1
  case neg => rw [if_pos (zif_pos tt), if_neg (show ¬ t = 0 by omega), if_neg (show ¬ t = 1 by omega), if_pos rfl, b160_53]
  rw [if_neg (zif_neg tt)]
  rcases (by omega : t = 0 ∨ t = 1) with e | e <;> subst e
  · rw [show ((0 : Int)).toNat = 0 from rfl, h7, if_pos rfl]
    by_cases q : p = -1
    · rw [if_neg (fun z => z q), if_neg (fun z => z rfl), if_pos q, b160_41, zw_nat (n := np) (by omega), show zw 3 = 3 by decide]
      by_cases r : np = 3
      · rw [if_neg (by omega), if_pos r, if_pos rfl, b160_53]
      · rw [if_pos (by omega), if_neg r, if_neg (by omega)]
    · have iy := s_inz (S := Z0 n) (h := h) (a := p) (b := 0) (c := (np : Int) - 1) hp ⟨by omega, by omega⟩ ⟨by omega, by omega⟩
      rw [if_pos q, b160_51 iy, if_neg q]
      by_cases r : 0 ≤ p ∧ p < np
      · rw [if_pos (zif_neg (by omega)), if_pos r, if_neg (by omega)]
      · rw [if_neg (fun z => z (zif_pos (by omega))), if_neg r, if_pos rfl, b160_53]
  · rw [show ((1 : Int)).toNat = 1 from rfl, h7', if_neg (show ¬ (1 : Int) = 0 by decide), if_pos rfl]
    by_cases q : p = -1
    · rw [if_neg (fun z => z q), if_pos (show ¬ (1 : Int) = 0 by decide), if_pos q, b160_41, zw_nat (n := nt) (by omega), show zw 2 = 2 by decide]
      by_cases r : nt = 2
      · rw [if_neg (by omega), if_pos r, if_pos rfl, b160_53]
      · rw [if_pos (by omega), if_neg r, if_neg (by omega)]
    · have iy := s_inz (S := Z0 n) (h := h) (a := p) (b := 0) (c := (nt : Int) - 1) hp ⟨by omega, by omega⟩ ⟨by omega, by omega⟩
      rw [if_pos q, b160_51 iy, if_neg q]
      by_cases r : 0 ≤ p ∧ p < nt
      · rw [if_pos (zif_neg (by omega)), if_pos r, if_neg (by omega)]
      · rw [if_neg (fun z => z (zif_pos (by omega))), if_neg r, if_pos rfl, b160_53]
end PLC
