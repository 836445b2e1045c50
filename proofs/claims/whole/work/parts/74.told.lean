/-! THE CLASS'S TOLD: four bytes more -/
def hu (o : Nat) (m : Int) (A : Nat → Int) (h : zH) : zH := fun x k => if x = o ∧ k = 1 then m else if x = o + 1 then A k else h x k
section P_hu
variable {o : Nat} {m xx : Int} {A : Nat → Int} {h : zH} {k v : Nat}
theorem hu_1 : hu o m A h (o + 1) k = A k := by
  unfold hu
  rw [if_neg (by omega), if_pos rfl]
theorem hu_m : hu o m A h o 1 = m := by
  unfold hu
  rw [if_pos ⟨rfl, rfl⟩]
theorem hu_o {y : Nat} (g : y ≠ o + 1 ∧ ¬ (y = o ∧ k = 1)) : hu o m A h y k = h y k := by
  unfold hu
  rw [if_neg (by omega), if_neg (by omega)]
theorem zu_hu_1 : zu (hu o m A h) (o + 1) v xx = hu o m (fu A v xx) h := by
  funext y k
  by_cases q1 : y = o + 1
  · subst q1
    rw [hu_1]
    by_cases q2 : k = v
    · rw [show zu (hu o m A h) (o + 1) v xx (o + 1) k = xx from if_pos ⟨rfl, q2⟩, q2, fu_same]
    · rw [show zu (hu o m A h) (o + 1) v xx (o + 1) k = hu o m A h (o + 1) k from if_neg (fun z => q2 z.2), fu_ne q2, hu_1]
  · rw [show zu (hu o m A h) (o + 1) v xx y k = hu o m A h y k from if_neg (fun z => q1 z.1)]
    unfold hu
    simp only [if_neg q1]
theorem zu_hu_m : zu (hu o m A h) o 1 xx = hu o xx A h := by
  funext y k
  by_cases q1 : y = o ∧ k = 1
  · obtain ⟨rfl, rfl⟩ := q1
    rw [hu_m]
    exact if_pos ⟨rfl, rfl⟩
  · rw [show zu (hu o m A h) o 1 xx y k = hu o m A h y k from if_neg q1]
    unfold hu
    simp only [if_neg q1]
end P_hu
/-- the bytes of a number -/
def byt (v : Int) (i : Nat) : Int := zb8 (zushr v (24 - 8 * (i : Int)))
def tap (A : Nat → Int) (v : Int) (n i : Nat) : Nat → Int := fun k => if n ≤ k ∧ k < n + i then byt v (k - n) else A k
section APP
variable {S : zS} {h : zH} {o n : Nat} {v : Int}
/-- Told.append -/
theorem s_app (hL : LX7 S o) (hn : h o 1 = (n : Int)) (hb : n + 4 ≤ 600) : Zx 91 0 [zR o, zI v, zN] [] S h = some (none, S, hu o ((n + 4 : Nat) : Int) (tap (h (o + 1)) v n 4) h) := by
  rw [b91_0 hL]
  have e0 : h = hu o ((n + 0 : Nat) : Int) (tap (h (o + 1)) v n 0) h := by
    funext x k
    by_cases q : x = o ∧ k = 1
    · rw [q.1, q.2, hu_m, hn]; rfl
    · by_cases q2 : x = o + 1
      · rw [q2, hu_1]
        exact (if_neg (by omega)).symm
      · rw [hu_o ⟨q2, q⟩]
  have c := z_chain (N := 4) (X := fun i => Zx 91 2 [zR o, zI v, zI (24 - 8 * (i : Int))] [] S (hu o ((n + i : Nat) : Int) (tap (h (o + 1)) v n i) h)) (fun i hi => by
    show Zx 91 2 _ _ _ _ = Zx 91 2 _ _ _ _
    rw [b91_2 hL (by intros; rw [hu_m]; omega) (by intros; rw [hu_m]; omega), zw_id (z := 24 - 8 * (i : Int)) (by omega) (by omega), if_neg (by omega), hu_m, zw_nat (by omega), if_neg (by omega), b91_23 hL, Int.toNat_natCast, zu_hu_1, hu_m, zu_hu_m]
    rw [show (24 - 8 * (i : Int)) + (-8) = 24 - 8 * ((i + 1 : Nat) : Int) by omega, show ((n + i : Nat) : Int) + 1 = ((n + (i + 1) : Nat) : Int) by omega]
    refine congrArg (fun A => Zx 91 2 [zR o, zI v, zI (24 - 8 * ((i + 1 : Nat) : Int))] [] S (hu o ((n + (i + 1) : Nat) : Int) A h)) (funext fun k => ?_)
    by_cases q : k = n + i
    · rw [q, fu_same]
      show _ = if n ≤ n + i ∧ n + i < n + (i + 1) then byt v (n + i - n) else h (o + 1) (n + i)
      rw [if_pos ⟨by omega, by omega⟩, show n + i - n = i by omega]
      rfl
    · rw [fu_ne q]
      show (if n ≤ k ∧ k < n + i then byt v (k - n) else h (o + 1) k) = if n ≤ k ∧ k < n + (i + 1) then byt v (k - n) else h (o + 1) k
      by_cases q2 : n ≤ k ∧ k < n + i
      · rw [if_pos q2, if_pos ⟨by omega, by omega⟩]
      · rw [if_neg q2, if_neg (by omega)])
  have c' : Zx 91 2 [zR o, zI v, zI 24] [] S (hu o ((n + 0 : Nat) : Int) (tap (h (o + 1)) v n 0) h) = Zx 91 2 [zR o, zI v, zI (24 - 8 * ((4 : Nat) : Int))] [] S (hu o ((n + 4 : Nat) : Int) (tap (h (o + 1)) v n 4) h) := c
  rw [← e0] at c'
  rw [c', b91_2 hL (fun g _ => absurd (show zw (24 - 8 * ((4 : Nat) : Int)) < 0 by decide) g) (fun g _ => absurd (show zw (24 - 8 * ((4 : Nat) : Int)) < 0 by decide) g), if_pos (by decide)]
end APP
/-- a byte is the same by either shift -/
theorem byt_shr {v : Int} {i : Nat} (hi : i < 4) : byt v i = zb8 (zshr v (24 - 8 * (i : Int))) := by
  have w : zw v = v % 4294967296 ∨ zw v = v % 4294967296 - 4294967296 := by
    unfold zw
    have a := Int.bmod_emod (x := v) (m := 4294967296)
    have b := zw_lo v
    have c := zw_hi v
    unfold zw at b c
    omega
  unfold byt zushr zshr zb8
  rcases (show i = 0 ∨ i = 1 ∨ i = 2 ∨ i = 3 by omega) with rfl | rfl | rfl | rfl
  · rw [show (2 : Int) ^ ((24 - 8 * ((0 : Nat) : Int)) % 32).toNat = 16777216 by decide]
    have : zw v / 16777216 % 256 = v % 4294967296 / 16777216 % 256 := by omega
    rw [← Int.emod_bmod (x := zw v / 16777216) (n := 256)]
    rw [show ((256 : Nat) : Int) = 256 from rfl, this, ← show ((256 : Nat) : Int) = 256 from rfl, Int.emod_bmod]
  · rw [show (2 : Int) ^ ((24 - 8 * ((1 : Nat) : Int)) % 32).toNat = 65536 by decide]
    have : zw v / 65536 % 256 = v % 4294967296 / 65536 % 256 := by omega
    rw [← Int.emod_bmod (x := zw v / 65536) (n := 256)]
    rw [show ((256 : Nat) : Int) = 256 from rfl, this, ← show ((256 : Nat) : Int) = 256 from rfl, Int.emod_bmod]
  · rw [show (2 : Int) ^ ((24 - 8 * ((2 : Nat) : Int)) % 32).toNat = 256 by decide]
    have : zw v / 256 % 256 = v % 4294967296 / 256 % 256 := by omega
    rw [← Int.emod_bmod (x := zw v / 256) (n := 256)]
    rw [show ((256 : Nat) : Int) = 256 from rfl, this, ← show ((256 : Nat) : Int) = 256 from rfl, Int.emod_bmod]
  · rw [show (2 : Int) ^ ((24 - 8 * ((3 : Nat) : Int)) % 32).toNat = 1 by decide]
    have : zw v / 1 % 256 = v % 4294967296 / 1 % 256 := by omega
    rw [← Int.emod_bmod (x := zw v / 1) (n := 256)]
    rw [show ((256 : Nat) : Int) = 256 from rfl, this, ← show ((256 : Nat) : Int) = 256 from rfl, Int.emod_bmod]
