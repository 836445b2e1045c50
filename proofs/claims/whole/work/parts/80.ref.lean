/-! THE REFERENCE: beside, difference -/
section RF1
variable {n : Nat} {h : zH} {W : Nat}
/-- FringeBenchModel.difference -/
theorem m_dif {a b : Nat} (ha : a < 25) (hb : b < 25) (h1 : -1 ≤ h 215 a) (h2 : h 215 a < 400) (h3 : -1 ≤ h 215 b) (h4 : h 215 b < 400) : Zx 167 0 [zR 202, zI (a : Int), zI (b : Int), zN] [] (Z0 n) h = some (some (zI (pdif a b (h 215 a) (h 215 b))), Z0 n, h) := by
  have ea := zw_nat (n := a) (by omega)
  have eb := zw_nat (n := b) (by omega)
  have tail : ∀ d : Int, -1000 ≤ d → d ≤ 1000 → Zx 167 22 [zN, zI (a : Int), zI (b : Int), zN] [zI d] (Z0 n) h = some (some (zI (if a < b then (if d < -200 then d + 400 else if 200 ≤ d then d - 400 else d) else -(if d < -200 then d + 400 else if 200 ≤ d then d - 400 else d))), Z0 n, h) := by
    intro d g1 g2
    have fin : ∀ e : Int, Zx 167 38 [zN, zI (a : Int), zI (b : Int), zN] [zI e] (Z0 n) h = some (some (zI (if a < b then e else -e)), Z0 n, h) := by
      intro e
      rw [b167_38, ea, eb]
      by_cases q : (b : Int) ≤ a
      · rw [if_pos q, b167_46, if_neg (by omega)]
      · rw [if_neg q, b167_46, if_pos (by omega)]
    rw [b167_22, zw_id (z := d) (by omega) (by omega)]
    by_cases c1 : -200 ≤ d
    · rw [if_pos c1]
      by_cases c2 : d < 200
      · rw [if_pos c2, fin, if_neg (show ¬ d < -200 by omega), if_neg (show ¬ 200 ≤ d by omega)]
      · rw [if_neg c2, fin, if_neg (show ¬ d < -200 by omega), if_pos (show 200 ≤ d by omega)]
    · rw [if_neg c1, fin, if_pos (show d < -200 by omega)]
  rw [b167_0 (by intros; omega) (by intros; omega) (by intros; omega) (by intros; omega) (by intros; omega) (by intros; omega) (by intros; omega) (by intros; omega), ea, eb, Int.toNat_natCast, Int.toNat_natCast]
  unfold pdif
  by_cases q : (b : Int) ≤ a
  · have hn : ¬ a < b := by omega
    rw [if_pos q, tail _ (by omega) (by omega)]
    simp only [if_neg hn]
  · have hn : a < b := by omega
    rw [if_neg q, tail _ (by omega) (by omega)]
    simp only [if_pos hn]
/-- FringeBenchModel.areBeside -/
theorem m_abs {a b : Nat} (hw : h 202 20 = (W : Int)) (hW : 2 ≤ W ∧ W ≤ 5) (ha : a < 25) (hb : b < 25) : Zx 166 0 [zR 202, zI (a : Int), zI (b : Int), zN, zN] [] (Z0 n) h = some (some (zI (if bsd W a b = true then 1 else 0)), Z0 n, h) := by
  have eW := zw_nat (n := W) (by omega)
  have ea := zw_nat (n := a) (by omega)
  have eb := zw_nat (n := b) (by omega)
  have nz : ¬ zw (h 202 20) = 0 := by rw [hw, eW]; omega
  have m1 : Int.tmod (a : Int) (W : Int) = ((a % W : Nat) : Int) := (Int.ofNat_tmod a W).symm
  have m2 : Int.tmod (b : Int) (W : Int) = ((b % W : Nat) : Int) := (Int.ofNat_tmod b W).symm
  have d1 : Int.tdiv (a : Int) (W : Int) = ((a / W : Nat) : Int) := (Int.ofNat_tdiv a W).symm
  have d2 : Int.tdiv (b : Int) (W : Int) = ((b / W : Nat) : Int) := (Int.ofNat_tdiv b W).symm
  have l1 : a % W < W := Nat.mod_lt _ (by omega)
  have l2 : b % W < W := Nat.mod_lt _ (by omega)
  have l3 : a / W ≤ a := Nat.div_le_self _ _
  have l4 : b / W ≤ b := Nat.div_le_self _ _
  have l5 : a / W < 25 := by omega
  have l6 : b / W < 25 := by omega
  have l7 : a % W < 25 := by omega
  have l8 : b % W < 25 := by omega
  rw [b166_0 nz nz, hw, eW, ea, eb, m1, m2, b166_9 s_plain nz nz, hw, eW, ea, eb, d1, d2, b166_20 s_plain]
  unfold bsd
  clear m1 m2 d1 d2 l1 l2 l3 l4
  generalize a % W = p at *
  generalize b % W = q at *
  generalize a / W = r at *
  generalize b / W = s at *
  rw [zw_id (z := (p : Int) - (q : Int)) (by omega) (by omega), zw_id (z := (r : Int) - (s : Int)) (by omega) (by omega)]
  have key : (if 0 ≤ (p : Int) - (q : Int) then (p : Int) - (q : Int) else -((p : Int) - (q : Int))) + (if 0 ≤ (r : Int) - (s : Int) then (r : Int) - (s : Int) else -((r : Int) - (s : Int))) = 1 ↔ decide ((r = s ∧ (p + 1 = q ∨ q + 1 = p)) ∨ (p = q ∧ (r + 1 = s ∨ s + 1 = r))) = true := by
    rw [decide_eq_true_eq]
    split <;> split <;> omega
  rw [zw_id (z := (if 0 ≤ (p : Int) - (q : Int) then (p : Int) - (q : Int) else -((p : Int) - (q : Int))) + (if 0 ≤ (r : Int) - (s : Int) then (r : Int) - (s : Int) else -((r : Int) - (s : Int)))) (by split <;> split <;> omega) (by split <;> split <;> omega)]
  by_cases c : decide ((r = s ∧ (p + 1 = q ∨ q + 1 = p)) ∨ (p = q ∧ (r + 1 = s ∨ s + 1 = r))) = true
  · rw [if_neg (fun z => z (key.mpr c)), b166_30 (Or.inr rfl), if_pos c]
  · rw [if_pos (fun z => c (key.mp z)), b166_30 (Or.inl rfl), if_neg c]
end RF1
