/-! FLOORS: Math.floorDiv, Heights.countFringes -/
theorem zbxor_neg {a b : Int} : zw (zbxor a b) < 0 ↔ (zw a < 0 ↔ ¬ zw b < 0) := by
  have e : decide ((Int32.ofInt a ^^^ Int32.ofInt b).toBitVec.toInt < 0) = ((decide ((Int32.ofInt a).toBitVec.toInt < 0)) ^^ (decide ((Int32.ofInt b).toBitVec.toInt < 0))) := by
    rw [← BitVec.msb_eq_toInt, Int32.toBitVec_xor, BitVec.msb_xor, BitVec.msb_eq_toInt, BitVec.msb_eq_toInt]
  rw [Int32.toInt_toBitVec, Int32.toInt_toBitVec, Int32.toInt_toBitVec, zw_toInt, zw_toInt] at e
  have f : zw (zbxor a b) = (Int32.ofInt a ^^^ Int32.ofInt b).toInt := zw_of _
  rw [f]
  by_cases p : zw a < 0 <;> by_cases q : zw b < 0 <;> simp [p, q] at e ⊢ <;> omega
/-- the floor of a part -/
def floD (a s : Int) : Int := if 0 ≤ a then Int.tdiv a s else if Int.tdiv a s * s = a then Int.tdiv a s else Int.tdiv a s - 1
/-- Math.floorDiv, by more than nothing -/
theorem s_flo {S : zS} {h : zH} {a s : Int} (ha : -100000000 ≤ a ∧ a ≤ 100000000) (hs : 1 ≤ s ∧ s ≤ 9999) : Zx 238 0 [zI a, zI s, zN] [] S h = some (some (zI (floD a s)), S, h) := by
  have za := zw_id (z := a) (by omega) (by omega)
  have zs := zw_id (z := s) (by omega) (by omega)
  have x := zbxor_neg (a := a) (b := s)
  rw [za, zs] at x
  rw [b238_0 (by rw [zs]; omega), za, zs]
  unfold floD
  by_cases q : 0 ≤ a
  · rw [if_pos (by omega), b238_17, if_pos q]
  · have n : ¬ 0 ≤ zw (zbxor a s) := by omega
    rw [if_neg n, if_neg q]
    have e1 : Int.tdiv a s * s = a - Int.tmod a s := by
      have := Int.tmod_add_mul_tdiv a s
      rw [Int.mul_comm]
      omega
    have e2 : -9999 ≤ Int.tmod a s ∧ Int.tmod a s ≤ 9999 := by
      have t1 := Int.tmod_lt_of_pos a (show 0 < s by omega)
      have t2 := Int.lt_tmod_of_pos a (show 0 < s by omega)
      omega
    have z2 := zw_id (z := Int.tdiv a s * s) (by omega) (by omega)
    rw [z2]
    by_cases c : Int.tdiv a s * s = a
    · rw [if_pos c, b238_17, if_pos c]
    · rw [if_neg c, if_neg c]
theorem floD_in {a s : Int} (ha : -100000000 ≤ a ∧ a ≤ 100000000) (hs : 1 ≤ s ∧ s ≤ 9999) : -200000000 ≤ floD a s ∧ floD a s ≤ 200000000 := by
  have c := Int.natAbs_tdiv a s
  have d : Nat.div a.natAbs s.natAbs ≤ a.natAbs := Nat.div_le_self _ _
  unfold floD
  split
  · omega
  · split <;> omega
section FRI
variable {S : zS} {h : zH} {o W H N : Nat} {T : Nat → Bool} {F G : Nat → Int} {z : Int} {tl tg : Nat → Int}
/-- Heights.countFringes -/
theorem s_fri (hL : LX0 S o) (hV : SvC h o W H N T F G z tl tg) (hwf : wfS W H N T F G) {s : Int} (hs : 1 ≤ s ∧ s ≤ 9999) : Zx 17 0 [zR o, zI s, zN, zN] [] S h = some (some (zI (su (fun j => if floD (hgt F tl (scf N W T j)) s ≠ floD (hgt F tl (sct N W T j)) s then 1 else 0) (scJ N W T))), S, h) := by
  have hN := hwf.2.2.2.1
  obtain ⟨j1, j2, j3, j4, j5⟩ := hV.jo
  have zs := zw_id (z := s) (by omega) (by omega)
  rw [b17_0 hL]
  refine (z_chain (N := scJ N W T) (X := fun i => Zx 17 4 [zR o, zI s, zI (su (fun j => if floD (hgt F tl (scf N W T j)) s ≠ floD (hgt F tl (sct N W T j)) s then 1 else 0) i), zI (i : Int)] [] S h) (fun i hi => ?_)).trans ?_
  · obtain ⟨k1, k2, k3, k4, k5, k6, k7, k8, k9⟩ := j5 i hi
    obtain ⟨a1, a2, a3, a4, a5⟩ := sc_at hwf hi
    have r1 := hV.hin hwf k5 a3
    have r2 := hV.hin hwf k6 a4
    have g1 := floD_in (a := hgt F tl (scf N W T i)) (s := s) (by omega) hs
    have g2 := floD_in (a := hgt F tl (sct N W T i)) (s := s) (by omega) hs
    show Zx 17 4 _ _ _ _ = Zx 17 4 _ _ _ _
    rw [b17_4 hL (by intros; omega) (by intros; omega), zs, if_neg (by omega), j3, zw_nat (by omega), zw_nat (by omega), if_neg (by omega), Int.toNat_natCast, k1, b17_15 hL hL (s_hgt hL hV hwf k5 a3), b17_17 hL (s_flo (by omega) hs) (by intros; omega) (by intros; omega), Int.toNat_natCast, k2, b17_23 hL hL (s_hgt hL hV hwf k6 a4), b17_25 hL (s_flo (by omega) hs), zw_id (z := floD (hgt F tl (scf N W T i)) s) (by omega) (by omega), zw_id (z := floD (hgt F tl (sct N W T i)) s) (by omega) (by omega), b17_28 hL, b17_28 hL, su]
    by_cases q : floD (hgt F tl (scf N W T i)) s = floD (hgt F tl (sct N W T i)) s
    · rw [if_pos q, if_neg (fun g => g q), Int.add_zero]; rfl
    · rw [if_neg q, if_pos q]; rfl
  · show Zx 17 4 _ _ _ _ = _
    rw [b17_4 hL (by intros; omega) (by rw [j3]; intro _ q; exact absurd (Int.le_refl _) q), zs, if_neg (by omega), j3, if_pos (Int.le_refl _), b17_30]
end FRI
