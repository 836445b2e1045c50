/-! READING: which word it is -/
section LOF
variable {n : Nat} {h : zH}
def pkw (s : Nat → Int) : Nat → Nat
  | 0 => 0
  | k + 1 => pkw s k * 256 + (s k).toNat
theorem pkw_eq {c s : Nat → Int} {a : Nat} : ∀ l k, (∀ j, j < l → 97 ≤ s j ∧ s j ≤ 122) → (∀ z, a ≤ z → z < a + k → 97 ≤ c z ∧ c z ≤ 122) → (pv c a k = pkw s l ↔ k = l ∧ ∀ j, j < l → c (a + j) = s j)
  | 0, 0, _, _ => ⟨fun _ => ⟨rfl, fun j q => absurd q (Nat.not_lt_zero j)⟩, fun _ => rfl⟩
  | 0, k + 1, _, hl => by
    have q := hl (a + k) (by omega) (by omega)
    have e : pv c a (k + 1) = pv c a k * 256 + (c (a + k)).toNat := rfl
    have z : pkw s 0 = 0 := rfl
    rw [e, z]
    exact ⟨fun y => by omega, fun y => absurd y.1 (by omega)⟩
  | l + 1, 0, hs, _ => by
    have q := hs l (by omega)
    have e : pkw s (l + 1) = pkw s l * 256 + (s l).toNat := rfl
    have z : pv c a 0 = 0 := rfl
    rw [e, z]
    exact ⟨fun y => by omega, fun y => absurd y.1 (by omega)⟩
  | l + 1, k + 1, hs, hl => by
    have q := hl (a + k) (by omega) (by omega)
    have r := hs l (by omega)
    have e : pv c a (k + 1) = pv c a k * 256 + (c (a + k)).toNat := rfl
    have f : pkw s (l + 1) = pkw s l * 256 + (s l).toNat := rfl
    have ih := pkw_eq (c := c) (s := s) (a := a) l k (fun j hj => hs j (by omega)) (fun z z1 z2 => hl z z1 (by omega))
    rw [e, f]
    constructor
    · intro y
      have y1 : pv c a k = pkw s l := by omega
      have y2 : c (a + k) = s l := by omega
      obtain ⟨i1, i2⟩ := ih.mp y1
      refine ⟨by omega, fun j hj => ?_⟩
      by_cases z : j = l
      · rw [z, ← i1]; rw [i1] at y2 ⊢; exact y2
      · exact i2 j (by omega)
    · rintro ⟨y1, y2⟩
      have y3 : k = l := by omega
      have y4 := ih.mpr ⟨y3, fun j hj => y2 j (by omega)⟩
      have y5 := y2 l (by omega)
      rw [y4, y3, y5]
/-- the token from a to b is word w -/
def isW (c : Nat → Int) (a b w : Nat) : Prop := b - a = zsl w ∧ ∀ j, j < zsl w → c (a + j) = zsc w j
theorem zsl_in : ∀ w, w < 12 → 4 ≤ zsl w ∧ zsl w ≤ 6 := by decide
theorem zsc_in : ∀ w, w < 12 → ∀ j, j < zsl w → 97 ≤ zsc w j ∧ zsc w j ≤ 122 := by decide
theorem pkw_w : (pkw (zsc 0) (zsl 0) = 1936292453 ∧ pkw (zsc 1) (zsl 1) = 1937007984 ∧ pkw (zsc 2) (zsl 2) = 482787554149 ∧ pkw (zsc 3) (zsl 3) = 1752132709 ∧ pkw (zsc 4) (zsl 4) = 131277443786868 ∧ pkw (zsc 5) (zsl 5) = 465557353332) ∧ pkw (zsc 6) (zsl 6) = 1668248436 ∧ pkw (zsc 7) (zsl 7) = 1819243380 ∧ pkw (zsc 8) (zsl 8) = 482671228019 ∧ pkw (zsc 9) (zsl 9) = 439956632179 ∧ pkw (zsc 10) (zsl 10) = 1751738216 ∧ pkw (zsc 11) (zsl 11) = 513021013607 := by decide
/-- the reference's comparison is the word's -/
theorem tW_w {c : Nat → Int} {a b w : Nat} (hw : w < 12) (hab : a ≤ b) (hl : ∀ z, a ≤ z → z < b → 97 ≤ c z ∧ c z ≤ 122) : zw (zlcmp (if b - a ≤ 8 then pw c a (b - a) else 0) (pkw (zsc w) (zsl w) : Nat)) = 0 ↔ isW c a b w := by
  have hz := zsl_in w hw
  have hs := zsc_in w hw
  have pk0 : ∀ l, (∀ j, j < l → 97 ≤ zsc w j ∧ zsc w j ≤ 122) → l ≤ 6 → pkw (zsc w) l < 256 ^ l ∧ (1 ≤ l → 1 ≤ pkw (zsc w) l) := by
    intro l
    induction l with
    | zero => intro _ _; exact ⟨by show 0 < 1; omega, fun z => absurd z (by omega)⟩
    | succ l ih =>
      intro q1 q2
      have i := ih (fun j hj => q1 j (by omega)) (by omega)
      have r := q1 l (by omega)
      have e : (256 : Nat) ^ (l + 1) = 256 ^ l * 256 := Nat.pow_succ ..
      show pkw (zsc w) l * 256 + (zsc w l).toNat < 256 ^ (l + 1) ∧ (1 ≤ l + 1 → 1 ≤ pkw (zsc w) l * 256 + (zsc w l).toNat)
      rw [e]
      omega
  obtain ⟨k1, k2⟩ := pk0 (zsl w) hs hz.2
  have k3 : (256 : Nat) ^ zsl w ≤ 256 ^ 6 := Nat.pow_le_pow_right (by omega) hz.2
  have k4 : (256 : Nat) ^ 6 = 281474976710656 := by decide
  have k5 := k2 (by omega)
  have cmp : ∀ x : Int, 0 ≤ x → x < 2 ^ 63 → (zw (zlcmp x (pkw (zsc w) (zsl w) : Nat)) = 0 ↔ x = (pkw (zsc w) (zsl w) : Nat)) := fun x x0 x1 => by
    have e1 : zwl x = x := by unfold zwl; rw [Int.bmod_eq_of_le (by omega) (by omega)]
    have e2 : zwl (pkw (zsc w) (zsl w) : Nat) = (pkw (zsc w) (zsl w) : Nat) := by unfold zwl; rw [Int.bmod_eq_of_le (by omega) (by omega)]
    unfold zlcmp
    rw [e1, e2]
    by_cases y : x < (pkw (zsc w) (zsl w) : Nat)
    · rw [if_pos y]
      exact ⟨fun z => absurd z (by decide), fun z => by omega⟩
    · rw [if_neg y]
      by_cases z : x = (pkw (zsc w) (zsl w) : Nat)
      · rw [if_pos z]; exact ⟨fun _ => z, fun _ => by decide⟩
      · rw [if_neg z]; exact ⟨fun q => absurd q (by decide), fun q => absurd q z⟩
  unfold isW
  by_cases q : b - a ≤ 8
  · rw [if_pos q]
    obtain ⟨p1, p2, p3⟩ := pw_pv (c := c) (a := a) (b - a) q (fun z z1 z2 => hl z z1 (by omega))
    have p4 : pv c a (b - a) < 2 ^ 63 := by
      by_cases z : b - a = 8
      · exact p3 z
      · have : (256 : Nat) ^ (b - a) ≤ 256 ^ 7 := Nat.pow_le_pow_right (by omega) (by omega)
        have : (256 : Nat) ^ 7 = 2 ^ 56 := by decide
        omega
    rw [p1, cmp _ (by omega) (by omega)]
    have e := pkw_eq (c := c) (s := zsc w) (a := a) (zsl w) (b - a) hs (fun z z1 z2 => hl z z1 (by omega))
    constructor
    · intro y; exact e.mp (by omega)
    · intro y; rw [e.mpr y]
  · rw [if_neg q, cmp 0 (by omega) (by omega)]
    exact ⟨fun y => by omega, fun y => by omega⟩
end LOF
