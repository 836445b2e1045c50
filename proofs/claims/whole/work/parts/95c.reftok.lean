/-! READING: the reference's tokens -/
section RTO
variable {n : Nat} {h : zH}
theorem zb255a : ∀ k : Nat, k < 256 → zband ((k : Int) - 128) 255 = ((k : Int) - 128) % 256 := by decide +kernel
theorem zb255 {x : Int} (hx : -128 ≤ x ∧ x ≤ 127) : zband x 255 = x % 256 := by
  have := zb255a (x + 128).toNat (by omega)
  rw [show (((x + 128).toNat : Nat) : Int) - 128 = x by omega] at this
  exact this
/-- what is seen at p -/
def sn (c : Nat → Int) (m p : Nat) : Int := if p < m then c p % 256 else -1
theorem sn_in (c : Nat → Int) (m p : Nat) : -1 ≤ sn c m p ∧ sn c m p ≤ 255 := by
  unfold sn
  split <;> omega
theorem sn_e {c : Nat → Int} {m p : Nat} (hc : ∀ k, -128 ≤ c k ∧ c k ≤ 127) {x : Int} (hx : 0 ≤ x ∧ x ≤ 127) : sn c m p = x ↔ p < m ∧ c p = x := by
  have := hc p
  unfold sn
  split <;> omega
theorem sn_b {c : Nat → Int} {m p : Nat} (hc : ∀ k, -128 ≤ c k ∧ c k ≤ 127) {x y : Int} (hx : 0 ≤ x) (hy : y ≤ 127) : (x ≤ sn c m p ∧ sn c m p ≤ y) ↔ p < m ∧ x ≤ c p ∧ c p ≤ y := by
  have := hc p
  unfold sn
  split <;> omega
/-- FringeBenchModel.see -/
theorem m_see {c : Nat → Int} {m p : Nat} (hm : m ≤ 600) (hp : p ≤ m) (h8 : h 202 8 = (p : Int)) (h9 : h 202 9 = (m : Int)) (hb : ∀ k, k < m → zb8 (h 203 k) = c k) (hc : ∀ k, -128 ≤ c k ∧ c k ≤ 127) : Zx 148 0 [zR 202] [] (Z0 n) h = some (some (zI (sn c m p)), Z0 n, h) := by
  rw [b148_0 (by rw [h8]; intros; omega) (by rw [h8]; intros; omega), h8, h9, zw_nat (n := m) (by omega), zw_nat (n := p) (by omega), Int.toNat_natCast, b148_14, b148_14]
  unfold sn
  by_cases q : p < m
  · rw [if_neg (by omega), if_pos q, hb p q, zb255 (hc p)]
  · rw [if_pos (by omega), if_neg q]
def pw (c : Nat → Int) (a : Nat) : Nat → Int
  | 0 => 0
  | k + 1 => zlor (pw c a k * 2 ^ ((8 : Int) % 64).toNat) (c (a + k) % 256)
def tW (c : Nat → Int) (m p : Nat) : Int := if rn (ltr c) m (tA c m p) - tA c m p ≤ 8 then pw c (tA c m p) (rn (ltr c) m (tA c m p) - tA c m p) else 0
/-- the reference's names for the kinds -/
def rK (k : Int) : Int := if k = 0 then 0 else if k = 1 then 2 else if k = 2 then 3 else if k = 3 then 4 else 1
/-- letters -/
theorem m_let {c : Nat → Int} {m a : Nat} (hm : m ≤ 600) (ha : a < m) (h8 : h 202 8 = (a : Int)) (h9 : h 202 9 = (m : Int)) (h13 : h 202 13 = 0) (hb : ∀ k, k < m → zb8 (h 203 k) = c k) (hc : ∀ k, -128 ≤ c k ∧ c k ≤ 127) : ∃ h', Zx 149 38 [zR 202, zN, zI 0] [] (Z0 n) h = some (none, Z0 n, h') ∧ h' 202 11 = 2 ∧ h' 202 8 = ((rn (ltr c) m a : Nat) : Int) ∧ h' 202 13 = (if rn (ltr c) m a - a ≤ 8 then pw c a (rn (ltr c) m a - a) else 0) ∧ ∀ x k, ¬ (x = 202 ∧ (k = 8 ∨ k = 11 ∨ k = 13)) → h' x k = h x k := by
  obtain ⟨r1, r2, r3, r4⟩ := rn_spec (P := ltr c) (m := m) (p := a) (by omega)
  generalize hr : rn (ltr c) m a = r at *
  obtain ⟨g, e, i1, i2, i3⟩ := z_inv (N := r - a) (X := fun k (u : zH) => Zx 149 38 [zR 202, zN, zI (k : Int)] [] (Z0 n) u) (I := fun k u => u 202 8 = ((a + k : Nat) : Int) ∧ u 202 13 = pw c a k ∧ ∀ x i, ¬ (x = 202 ∧ (i = 8 ∨ i = 13)) → u x i = h x i) (s := h) ⟨h8, h13, fun _ _ _ => rfl⟩ (fun k u hk Iu => by
    obtain ⟨i1, i2, i3⟩ := Iu
    have u9 : u 202 9 = (m : Int) := by rw [i3 _ _ (by omega)]; exact h9
    have ub : ∀ z, z < m → zb8 (u 203 z) = c z := fun z hz => by rw [i3 _ _ (by omega)]; exact hb _ hz
    have se := m_see (n := n) (h := u) (c := c) (m := m) (p := a + k) hm (by omega) i1 u9 ub hc
    have si := sn_in c m (a + k)
    have dk := of_decide_eq_true (r3 (a + k) (by omega) (by omega))
    have sv : sn c m (a + k) = c (a + k) % 256 := if_pos (by omega)
    have bt := (sn_b (c := c) (m := m) (p := a + k) hc (x := 97) (y := 122) (by omega) (by omega)).mpr ⟨by omega, dk⟩
    have st : Zx 149 38 [zR 202, zN, zI (k : Int)] [] (Z0 n) u = Zx 149 38 [zR 202, zN, zI ((k : Int) + 1)] [] (Z0 n) (zu (zu u 202 13 (zlor (pw c a k * 2 ^ ((8 : Int) % 64).toNat) (c (a + k) % 256))) 202 8 (((a + k : Nat) : Int) + 1)) := by
      rw [b149_38, b149_39 se, b149_42 (s_inz ⟨by omega, by omega⟩ ⟨by omega, by omega⟩ ⟨by omega, by omega⟩), if_neg (zif_neg bt), b149_50 se, i2, zu_off (x := 202) (y := 202) (k := 13) (i := 8) (by omega), i1, zw_id (z := sn c m (a + k)) (by omega) (by omega), sv]
    refine ⟨_, st, by rw [zu_eq]; omega, by rw [zu_off (by omega), zu_eq]; rfl, fun x i q => by rw [zu_off (by omega), zu_off (by omega)]; exact i3 x i q⟩)
  have ra : a + (r - a) = r := by omega
  rw [ra] at i1
  have u9 : g 202 9 = (m : Int) := by rw [i3 _ _ (by omega)]; exact h9
  have ub : ∀ z, z < m → zb8 (g 203 z) = c z := fun z hz => by rw [i3 _ _ (by omega)]; exact hb _ hz
  have se := m_see (n := n) (h := g) (c := c) (m := m) (p := r) hm (by omega) i1 u9 ub hc
  have si := sn_in c m r
  have nb : ¬ (97 ≤ sn c m r ∧ sn c m r ≤ 122) := fun z => by
    have q := (sn_b (c := c) (m := m) (p := r) hc (x := 97) (y := 122) (by omega) (by omega)).mp z
    exact absurd q.2 (of_decide_eq_false (r4 q.1))
  have e' : Zx 149 38 [zR 202, zN, zI 0] [] (Z0 n) h = Zx 149 38 [zR 202, zN, zI ((r - a : Nat) : Int)] [] (Z0 n) g := e
  refine ⟨zu (zu g 202 13 (if r - a ≤ 8 then pw c a (r - a) else 0)) 202 11 2, ?_, zu_eq, by rw [zu_off (by omega), zu_off (by omega)]; exact i1, by rw [zu_off (by omega), zu_eq], fun x k q => by rw [zu_off (by omega), zu_off (by omega)]; exact i3 x k (by omega)⟩
  rw [e', b149_38, b149_39 se, b149_42 (s_inz ⟨by omega, by omega⟩ ⟨by omega, by omega⟩ ⟨by omega, by omega⟩), if_pos (zif_pos nb), zw_nat (n := r - a) (by omega), i2]
  by_cases q : r - a ≤ 8
  · rw [if_pos (by omega), if_pos q, b149_70, b149_137]
  · rw [if_neg (by omega), if_neg q, b149_70, b149_137]
/-- digits -/
theorem m_num {c : Nat → Int} {m a : Nat} (hm : m ≤ 600) (ha : a < m) (h8 : h 202 8 = (a : Int)) (h9 : h 202 9 = (m : Int)) (h12 : h 202 12 = 0) (hb : ∀ k, k < m → zb8 (h 203 k) = c k) (hc : ∀ k, -128 ≤ c k ∧ c k ≤ 127) : ∃ h', Zx 149 83 [zR 202, zN, zI 0] [] (Z0 n) h = some (none, Z0 n, h') ∧ h' 202 11 = (if 4 < rn (dgt c) m a - a then 1 else 3) ∧ h' 202 8 = ((rn (dgt c) m a : Nat) : Int) ∧ (rn (dgt c) m a - a ≤ 4 → h' 202 12 = dv c a (rn (dgt c) m a - a)) ∧ ∀ x k, ¬ (x = 202 ∧ (k = 8 ∨ k = 11 ∨ k = 12)) → h' x k = h x k := by
  obtain ⟨r1, r2, r3, r4⟩ := rn_spec (P := dgt c) (m := m) (p := a) (by omega)
  generalize hr : rn (dgt c) m a = r at *
  obtain ⟨g, e, i1, i2, i3⟩ := z_inv (N := r - a) (X := fun k (u : zH) => Zx 149 83 [zR 202, zN, zI (k : Int)] [] (Z0 n) u) (I := fun k u => u 202 8 = ((a + k : Nat) : Int) ∧ (k ≤ 4 → u 202 12 = dv c a k) ∧ ∀ x i, ¬ (x = 202 ∧ (i = 8 ∨ i = 12)) → u x i = h x i) (s := h) ⟨h8, fun _ => h12, fun _ _ _ => rfl⟩ (fun k u hk Iu => by
    obtain ⟨i1, i2, i3⟩ := Iu
    have u9 : u 202 9 = (m : Int) := by rw [i3 _ _ (by omega)]; exact h9
    have ub : ∀ z, z < m → zb8 (u 203 z) = c z := fun z hz => by rw [i3 _ _ (by omega)]; exact hb _ hz
    have se := m_see (n := n) (h := u) (c := c) (m := m) (p := a + k) hm (by omega) i1 u9 ub hc
    have si := sn_in c m (a + k)
    have dk := of_decide_eq_true (r3 (a + k) (by omega) (by omega))
    have sv : sn c m (a + k) = c (a + k) := (sn_e (c := c) (m := m) (p := a + k) hc (x := c (a + k)) ⟨by omega, by omega⟩).mpr ⟨by omega, rfl⟩
    have bt : 48 ≤ sn c m (a + k) ∧ sn c m (a + k) ≤ 57 := by rw [sv]; exact dk
    have st : Zx 149 83 [zR 202, zN, zI (k : Int)] [] (Z0 n) u = if 4 ≤ (k : Int) then Zx 149 105 [zR 202, zN, zI (k : Int)] [zI (u 202 12), zR 202] (Z0 n) u else Zx 149 98 [zR 202, zN, zI (k : Int)] [zR 202, zI (10 * (u 202 12)), zR 202] (Z0 n) u := by
      rw [b149_83, b149_84 se, b149_87 (s_inz ⟨by omega, by omega⟩ ⟨by omega, by omega⟩ ⟨by omega, by omega⟩), if_neg (zif_neg bt), zw_nat (n := k) (by omega)]
    by_cases q : 4 ≤ (k : Int)
    · rw [if_pos q, b149_105, zu_off (x := 202) (y := 202) (k := 12) (i := 8) (by omega), i1] at st
      exact ⟨_, st, by rw [zu_eq]; omega, fun z => by omega, fun x i z => by rw [zu_off (by omega), zu_off (by omega)]; exact i3 x i z⟩
    · rw [if_neg q, b149_98 se, b149_105, zu_off (x := 202) (y := 202) (k := 12) (i := 8) (by omega), i1, i2 (by omega), sv] at st
      refine ⟨_, st, by rw [zu_eq]; omega, fun z => ?_, fun x i z => by rw [zu_off (by omega), zu_off (by omega)]; exact i3 x i z⟩
      rw [zu_off (by omega), zu_eq]
      show 10 * dv c a k + c (a + k) - 48 = dv c a k * 10 + c (a + k) - 48
      omega)
  have ra : a + (r - a) = r := by omega
  rw [ra] at i1
  have u9 : g 202 9 = (m : Int) := by rw [i3 _ _ (by omega)]; exact h9
  have ub : ∀ z, z < m → zb8 (g 203 z) = c z := fun z hz => by rw [i3 _ _ (by omega)]; exact hb _ hz
  have se := m_see (n := n) (h := g) (c := c) (m := m) (p := r) hm (by omega) i1 u9 ub hc
  have si := sn_in c m r
  have nb : ¬ (48 ≤ sn c m r ∧ sn c m r ≤ 57) := fun z => by
    have q := (sn_b (c := c) (m := m) (p := r) hc (x := 48) (y := 57) (by omega) (by omega)).mp z
    exact absurd q.2 (of_decide_eq_false (r4 q.1))
  have e' : Zx 149 83 [zR 202, zN, zI 0] [] (Z0 n) h = Zx 149 83 [zR 202, zN, zI ((r - a : Nat) : Int)] [] (Z0 n) g := e
  refine ⟨zu g 202 11 (if 4 < r - a then 1 else 3), ?_, zu_eq, by rw [zu_off (by omega)]; exact i1, fun q => by rw [zu_off (by omega)]; exact i2 q, fun x k q => by rw [zu_off (by omega)]; exact i3 x k (by omega)⟩
  rw [e', b149_83, b149_84 se, b149_87 (s_inz ⟨by omega, by omega⟩ ⟨by omega, by omega⟩ ⟨by omega, by omega⟩), if_pos (zif_pos nb), zw_nat (n := r - a) (by omega)]
  by_cases q : 4 < r - a
  · rw [if_neg (by omega), if_pos q, b149_121, b149_137]
  · rw [if_pos (by omega), if_neg q, b149_121, b149_137]
end RTO
