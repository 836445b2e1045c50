/-! READING: tokens; the class's -/
section TOK
variable {n : Nat} {h : zH}
/-- how far from p on all are P, but never beyond m -/
def ru (P : Nat → Bool) (m : Nat) : Nat → Nat → Nat
  | 0, p => p
  | f + 1, p => if p < m ∧ P p = true then ru P m f (p + 1) else p
def rn (P : Nat → Bool) (m p : Nat) : Nat := ru P m (m - p) p
theorem ru_spec {P : Nat → Bool} {m : Nat} : ∀ f p, m - p ≤ f → p ≤ m → p ≤ ru P m f p ∧ ru P m f p ≤ m ∧ (∀ z, p ≤ z → z < ru P m f p → P z = true) ∧ (ru P m f p < m → P (ru P m f p) = false)
  | 0, p, h, hp => ⟨Nat.le_refl _, hp, fun z a b => absurd (Nat.lt_of_le_of_lt a b) (Nat.lt_irrefl p), fun q => by
    have : p < m := q
    omega⟩
  | f + 1, p, h, hp => by
    unfold ru
    by_cases c : p < m ∧ P p = true
    · rw [if_pos c]
      obtain ⟨a, b, d, e⟩ := ru_spec (P := P) (m := m) f (p + 1) (by omega) (by omega)
      exact ⟨by omega, b, fun z z1 z2 => by
        by_cases y : z = p
        · rw [y]; exact c.2
        · exact d z (by omega) z2, e⟩
    · rw [if_neg c]
      refine ⟨Nat.le_refl _, hp, fun z a b => absurd (Nat.lt_of_le_of_lt a b) (Nat.lt_irrefl p), fun q => ?_⟩
      cases y : P p
      · rfl
      · exact absurd ⟨q, y⟩ c
theorem rn_spec {P : Nat → Bool} {m p : Nat} (hp : p ≤ m) : p ≤ rn P m p ∧ rn P m p ≤ m ∧ (∀ z, p ≤ z → z < rn P m p → P z = true) ∧ (rn P m p < m → P (rn P m p) = false) := ru_spec (m - p) p (Nat.le_refl _) hp
theorem rn_lt {P : Nat → Bool} {m p : Nat} (hp : p < m) (h : P p = true) : p < rn P m p := by
  obtain ⟨a, b, c, d⟩ := rn_spec (P := P) (m := m) (p := p) (by omega)
  by_cases y : rn P m p = p
  · rw [y] at d
    have := d hp
    rw [h] at this
    cases this
  · omega
def blk (c : Nat → Int) (z : Nat) : Bool := decide (c z = 10 ∨ c z = 32)
def ltr (c : Nat → Int) (z : Nat) : Bool := decide (97 ≤ c z ∧ c z ≤ 122)
def dgt (c : Nat → Int) (z : Nat) : Bool := decide (48 ≤ c z ∧ c z ≤ 57)
/-- where the token begins; its kind: 0 end, 1 word, 2 number, 3 semicolon, 4 none; where it ends; its number -/
def tA (c : Nat → Int) (m p : Nat) : Nat := rn (blk c) m p
def tK (c : Nat → Int) (m p : Nat) : Int := if m ≤ tA c m p then 0 else if c (tA c m p) = 59 then 3 else if ltr c (tA c m p) = true then 1 else if dgt c (tA c m p) = true then (if 4 < rn (dgt c) m (tA c m p) - tA c m p then 4 else 2) else 4
def tB (c : Nat → Int) (m p : Nat) : Nat := if m ≤ tA c m p then m else if c (tA c m p) = 59 then tA c m p + 1 else if ltr c (tA c m p) = true then rn (ltr c) m (tA c m p) else if dgt c (tA c m p) = true then rn (dgt c) m (tA c m p) else tA c m p + 1
def dv (c : Nat → Int) (a : Nat) : Nat → Int
  | 0 => 0
  | k + 1 => dv c a k * 10 + c (a + k) - 48
def tN (c : Nat → Int) (m p : Nat) : Int := dv c (tA c m p) (rn (dgt c) m (tA c m p) - tA c m p)
theorem s_ltr {S : zS} {b : Int} (hb : zint b) : Zx 47 0 [zI b] [] S h = some (some (zI (if 97 ≤ b ∧ b ≤ 122 then 1 else 0)), S, h) := by
  rw [b47_0, hb.e]
  by_cases c : b < 97
  · rw [if_pos c, b47_8, b47_9 (Or.inl rfl), if_neg (by omega)]
  · rw [if_neg c]
    by_cases d : 122 < b
    · rw [if_pos d, b47_8, b47_9 (Or.inl rfl), if_neg (by omega)]
    · rw [if_neg d, b47_9 (Or.inr rfl), if_pos (by omega)]
theorem s_dgt {S : zS} {b : Int} (hb : zint b) : Zx 48 0 [zI b] [] S h = some (some (zI (if 48 ≤ b ∧ b ≤ 57 then 1 else 0)), S, h) := by
  rw [b48_0, hb.e]
  by_cases c : b < 48
  · rw [if_pos c, b48_8, b48_9 (Or.inl rfl), if_neg (by omega)]
  · rw [if_neg c]
    by_cases d : 57 < b
    · rw [if_pos d, b48_8, b48_9 (Or.inl rfl), if_neg (by omega)]
    · rw [if_neg d, b48_9 (Or.inr rfl), if_pos (by omega)]
theorem dv_in {c : Nat → Int} {a : Nat} : ∀ k, k ≤ 4 → (∀ z, a ≤ z → z < a + k → 48 ≤ c z ∧ c z ≤ 57) → 0 ≤ dv c a k ∧ dv c a k < 10 ^ k
  | 0, _, _ => ⟨Int.le_refl _, by show (0 : Int) < 1; omega⟩
  | k + 1, hk, h => by
    have i := dv_in k (by omega) (fun z z1 z2 => h z z1 (by omega))
    have q := h (a + k) (by omega) (by omega)
    have e : (10 : Int) ^ (k + 1) = 10 ^ k * 10 := Int.pow_succ ..
    show 0 ≤ dv c a k * 10 + c (a + k) - 48 ∧ dv c a k * 10 + c (a + k) - 48 < 10 ^ (k + 1)
    rw [e]
    omega
/-- Reader.readDigits -/
theorem c_dig {c : Nat → Int} {m a : Nat} (hm : m ≤ 600) (h1 : h 104 1 = (m : Int)) (h3 : h 104 3 = (a : Int)) (ha : a < m) (hd : dgt c a = true) (hb : ∀ k, k < m → zb8 (h 3 k) = c k) (hc : ∀ k, -128 ≤ c k ∧ c k ≤ 127) : ∃ h', Zx 46 0 [zR 104, zN] [] (Z0 n) h = some (none, Z0 n, h') ∧ h' 104 2 = (if 4 < rn (dgt c) m a - a then 4 else 2) ∧ h' 104 4 = ((rn (dgt c) m a : Nat) : Int) ∧ (rn (dgt c) m a - a ≤ 4 → h' 104 5 = dv c a (rn (dgt c) m a - a)) ∧ ∀ x k, ¬ (x = 104 ∧ (k = 2 ∨ k = 4 ∨ k = 5)) → h' x k = h x k := by
  obtain ⟨r1, r2, r3, r4⟩ := rn_spec (P := dgt c) (m := m) (p := a) (by omega)
  generalize hr : rn (dgt c) m a = r at *
  obtain ⟨g, e, i1, i2, i3⟩ := z_inv (N := r - a) (X := fun k (u : zH) => Zx 46 10 [zR 104, zI ((a + k : Nat) : Int)] [] (Z0 n) u) (I := fun k u => u 104 4 = ((a + k : Nat) : Int) ∧ (k ≤ 4 → u 104 5 = dv c a k) ∧ ∀ x i, ¬ (x = 104 ∧ (i = 4 ∨ i = 5)) → u x i = h x i) (s := zu (zu h 104 5 0) 104 4 (a : Int)) ⟨by rw [zu_eq]; rfl, fun _ => by rw [zu_off (by omega), zu_eq]; rfl, fun x i q => by rw [zu_off (by omega), zu_off (by omega)]⟩ (fun k u hk Iu => by
    obtain ⟨i1, i2, i3⟩ := Iu
    have u1 : u 104 1 = (m : Int) := by rw [i3 _ _ (by omega)]; exact h1
    have u3 : u 104 3 = (a : Int) := by rw [i3 _ _ (by omega)]; exact h3
    have ub : zb8 (u 3 (a + k)) = c (a + k) := by rw [i3 _ _ (by omega)]; exact hb _ (by omega)
    have ck := hc (a + k)
    have dk := of_decide_eq_true (r3 (a + k) (by omega) (by omega))
    have sd := s_dgt (S := Z0 n) (h := u) (b := c (a + k)) ⟨by omega, by omega⟩
    rw [if_pos dk] at sd
    have st := b46_10 (n := n) (h := u) (l1 := ((a + k : Nat) : Int)) (by intros; omega) (by intros; omega)
    rw [u1, zw_nat (n := m) (by omega), zw_nat (n := a + k) (by omega), if_neg (by omega), Int.toNat_natCast, ub, b46_18 sd (by intros; omega) (by intros; omega), if_neg (show ¬ zw 1 = 0 by decide), zu_eq, zu_off (by omega), u3, zw_id (z := ((a + k : Nat) : Int) + 1 - (a : Int)) (by omega) (by omega), zu_off (x := 104) (y := 104) (k := 4) (i := 5) (by omega), zu_off (x := 104) (y := 3) (by omega), Int.toNat_natCast, ub] at st
    by_cases q : 4 < ((a + k : Nat) : Int) + 1 - (a : Int)
    · rw [if_pos q, b46_45] at st
      refine ⟨_, st, by rw [zu_eq]; omega, fun z => by omega, fun x i z => by rw [zu_off (by omega)]; exact i3 x i (by omega)⟩
    · rw [if_neg q, b46_45] at st
      refine ⟨_, st, by rw [zu_off (by omega), zu_eq]; omega, fun z => ?_, fun x i z => by rw [zu_off (by omega), zu_off (by omega)]; exact i3 x i (by omega)⟩
      rw [zu_eq, i2 (by omega)]
      rfl)
  have ra : a + (r - a) = r := by omega
  rw [ra] at i1
  have u1 : g 104 1 = (m : Int) := by rw [i3 _ _ (by omega)]; exact h1
  have u3 : g 104 3 = (a : Int) := by rw [i3 _ _ (by omega)]; exact h3
  have e' : Zx 46 10 [zR 104, zI (a : Int)] [] (Z0 n) (zu (zu h 104 5 0) 104 4 (a : Int)) = Zx 46 10 [zR 104, zI (r : Int)] [] (Z0 n) g := by
    have : Zx 46 10 [zR 104, zI ((a + 0 : Nat) : Int)] [] (Z0 n) (zu (zu h 104 5 0) 104 4 (a : Int)) = Zx 46 10 [zR 104, zI ((a + (r - a) : Nat) : Int)] [] (Z0 n) g := e
    rw [ra] at this
    exact this
  have e47 : Zx 46 10 [zR 104, zI (r : Int)] [] (Z0 n) g = Zx 46 47 [zR 104, zN] [] (Z0 n) g := by
    have st := b46_10 (n := n) (h := g) (l1 := (r : Int)) (by intros; omega) (by rw [u1, zw_nat (n := m) (by omega), zw_nat (n := r) (by omega)]; intros; omega)
    rw [u1, zw_nat (n := m) (by omega), zw_nat (n := r) (by omega), Int.toNat_natCast] at st
    rw [st]
    by_cases q : r < m
    · have ub : zb8 (g 3 r) = c r := by rw [i3 _ _ (by omega)]; exact hb _ q
      have cr := hc r
      have nd : ¬ (48 ≤ c r ∧ c r ≤ 57) := of_decide_eq_false (r4 q)
      have sd := s_dgt (S := Z0 n) (h := g) (b := c r) ⟨by omega, by omega⟩
      rw [if_neg nd] at sd
      rw [if_neg (by omega), ub, b46_18 sd (fun q => absurd zw0 q) (fun q => absurd zw0 q), if_pos zw0]
    · rw [if_pos (by omega)]
  refine ⟨zu g 104 2 (if 4 < r - a then 4 else 2), ?_, zu_eq, by rw [zu_off (by omega)]; exact i1, fun q => by rw [zu_off (by omega)]; exact i2 q, fun x k q => by rw [zu_off (by omega)]; exact i3 x k (by omega)⟩
  have z3 : zu h 104 5 0 104 3 = (a : Int) := by rw [zu_off (by omega)]; exact h3
  have z4 : zu (zu h 104 5 0) 104 4 (a : Int) 104 3 = (a : Int) := by rw [zu_off (by omega)]; exact z3
  rw [b46_0, z3, z4, e', e47, b46_47, i1, u3, zw_id (z := (r : Int) - (a : Int)) (by omega) (by omega)]
  by_cases q : 4 < r - a
  · rw [if_pos (by omega), if_pos q, b46_58]
  · rw [if_neg (by omega), if_neg q, b46_58]
end TOK
