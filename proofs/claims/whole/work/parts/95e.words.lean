/-! READING: words -/
section WRD
variable {n : Nat} {h : zH}
theorem zlor_add' {x y : Nat} (hx : x < 2 ^ 55) (hy : y < 256) : zlor ((x : Int) * 256) (y : Int) = ((x * 256 + y : Nat) : Int) := by
  unfold zlor
  have a : (Int64.ofInt ((x : Int) * 256) ||| Int64.ofInt (y : Int)).toInt = (BitVec.ofInt 64 ((x * 256 : Nat) : Int) ||| BitVec.ofInt 64 (y : Int)).toInt := rfl
  rw [a, BitVec.ofInt_natCast, BitVec.ofInt_natCast]
  have t : (BitVec.ofNat 64 (x * 256) ||| BitVec.ofNat 64 y).toNat = x * 256 + y := by
    rw [BitVec.toNat_or, BitVec.toNat_ofNat, BitVec.toNat_ofNat, Nat.mod_eq_of_lt (by omega), Nat.mod_eq_of_lt (by omega), Nat.mul_comm]
    exact (Nat.two_pow_add_eq_or_of_lt (i := 8) (by omega) x).symm
  rw [BitVec.toInt_eq_toNat_of_lt (by rw [t]; omega), t]
/-- the packed letters, plainly -/
def pv (c : Nat → Int) (a : Nat) : Nat → Nat
  | 0 => 0
  | k + 1 => pv c a k * 256 + (c (a + k)).toNat
theorem pw_pv {c : Nat → Int} {a : Nat} : ∀ k, k ≤ 8 → (∀ z, a ≤ z → z < a + k → 97 ≤ c z ∧ c z ≤ 122) → pw c a k = (pv c a k : Int) ∧ (pv c a k < 256 ^ k) ∧ (k = 8 → pv c a k < 2 ^ 63)
  | 0, _, _ => ⟨rfl, by show 0 < 1; omega, fun h => absurd h (by omega)⟩
  | k + 1, hk, hl => by
    obtain ⟨i1, i2, -⟩ := pw_pv (c := c) (a := a) k (by omega) (fun z z1 z2 => hl z z1 (by omega))
    have e := hl (a + k) (by omega) (by omega)
    have b1 : (256 : Nat) ^ (k + 1) = 256 ^ k * 256 := Nat.pow_succ ..
    have q : (c (a + k)).toNat < 256 := by omega
    have cm : c (a + k) % 256 = ((c (a + k)).toNat : Int) := by omega
    have sm : ∀ j, j ≤ 7 → (256 : Nat) ^ j ≤ 2 ^ 56 := fun j hj => by
      have : (256 : Nat) ^ j ≤ 256 ^ 7 := Nat.pow_le_pow_right (by omega) hj
      exact this
    have first : ∀ j, j ≤ k → 1 ≤ j → pv c a j < 123 * 256 ^ (j - 1) := by
      intro j
      induction j with
      | zero => intro _ h; omega
      | succ j ih =>
        intro h1 _
        have ej := hl (a + j) (by omega) (by omega)
        have pj : pv c a (j + 1) = pv c a j * 256 + (c (a + j)).toNat := rfl
        rw [pj, Nat.add_sub_cancel]
        by_cases z : j = 0
        · subst z
          have p0 : pv c a 0 = 0 := rfl
          rw [p0]
          have : (256 : Nat) ^ 0 = 1 := rfl
          omega
        · have i := ih (by omega) (by omega)
          have s : (256 : Nat) ^ j = 256 ^ (j - 1) * 256 := by
            rw [← Nat.pow_succ, show (j - 1).succ = j by omega]
          omega
    have lim : pv c a k < 2 ^ 54 ∨ k = 7 := by
      by_cases z : k = 7
      · exact Or.inr z
      · left
        have : (256 : Nat) ^ k ≤ 256 ^ 6 := Nat.pow_le_pow_right (by omega) (by omega)
        have : (256 : Nat) ^ 6 = 2 ^ 48 := by decide
        omega
    have l54 : pv c a k < 2 ^ 54 ∨ (k = 7 ∧ pv c a k < 123 * 2 ^ 48) := by
      rcases lim with z | z
      · exact Or.inl z
      · right
        refine ⟨z, ?_⟩
        have := first k (Nat.le_refl _) (by omega)
        rw [z] at this ⊢
        have p : (256 : Nat) ^ (7 - 1) = 2 ^ 48 := by decide
        rw [p] at this
        exact this
    have l55 : pv c a k < 2 ^ 55 := by
      rcases l54 with z | ⟨-, z⟩ <;> omega
    refine ⟨?_, ?_, fun h8 => ?_⟩
    · show zlor (pw c a k * 2 ^ ((8 : Int) % 64).toNat) (c (a + k) % 256) = ((pv c a k * 256 + (c (a + k)).toNat : Nat) : Int)
      rw [show (2 : Int) ^ ((8 : Int) % 64).toNat = 256 by decide, i1, cm]
      exact zlor_add' l55 q
    · show pv c a k * 256 + (c (a + k)).toNat < 256 ^ (k + 1)
      rw [b1]; omega
    · show pv c a k * 256 + (c (a + k)).toNat < 2 ^ 63
      rcases l54 with z | ⟨-, z⟩ <;> omega
end WRD
